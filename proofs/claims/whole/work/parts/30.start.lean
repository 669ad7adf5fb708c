def Cw (p : Program) (s : State) (m : MethodId) (args : Array Value) (c : Code) (cc : ByteArray) (nL : Nat) (own : String) (g : zG) : Prop := p.tables.exec = Jvm.exec ∧ c.code = cc ∧ c.maxLocals = nL ∧ s.vm.findClass own = some m.cls ∧ (∀ w ∈ AW, w.before args s = true) ∧ va_K g.1 vwCl (zTys g) s ∧ zNj s ∧ va_AO RX0 s ∧ va_AO RX4 s
section ZD
variable {p : Program} {l : Launch} {e : Env} {R : Room} {s : State} {m : MethodId} {args : Array Value} {below : List Frame} {meth : Method} {c : Code} {H : Heap} {locs : List Loc} {cells slots : Nat} {Q : State → Prop} {cc : ByteArray} {nL : Nat} {own : String} {g : zG} {B : Nat} {u : Nat → Nat → Bool} {n : Nat} {pc : Nat} {ls : Array Slot} {st : List Value}
theorem l_new (cn : Cw p s m args c cc nL own g) (hn : Hn g B s u n H locs) {C : String} {T : u_T} {N ci idx : Nat} (ty : Nat → FieldType) (hty : ∀ k, k < N → parseFieldDescriptor (T k).2.2.1 = some (ty k)) (hc : vwCl[ci]? = some (C, T, N)) (hin : ∀ w ∈ u_ws C T N, w ∈ AW) (hk : kt n = ci + 3) (hN : kl n = N) (hdf : ∀ j, j < N → defaultValue (ty j) = svv B (zfk ci j n) (if isR n j = true then -1 else 0)) (hfn : ∀ k, isR n k = false → hFin n k = 0) (hcl : Cond.classLink own idx C ∈ AW) (hinst : Cond.instantiable C N ∈ AW) (hini : Cond.initialized C ∈ AW) (hcells : cells + 1 ≤ R.cells) (hslots : slots + N ≤ R.slots) (hd : decode cc pc = .ok (.new idx, 3))
    (kk : ∀ H1, Hn g B s (fun c k => if c = n then isR c k else u c k) (n + 1) H1 locs → W p l e R s m args below meth c H1 locs (cells + 1) (slots + N) Q (F0 m (pc + 3) ls (.ref (B + n) :: st))) : W p l e R s m args below meth c H locs cells slots Q (F0 m pc ls st) := by
  obtain ⟨hx, hb, hml, hown, hts, hK, hns, hao, hal⟩ := cn
  obtain ⟨hP, hz, hS, hB0⟩ := hn
  have hKn := hK.1 ci _ hc
  refine W.newcK hx hb hown (hts _ hcl) (hts _ hinst) (hts _ hini) rfl hd hcells hslots hKn.2.1 hz fun H1 kC hkC e1 z1 o1 => ?_
  have hkp : ∀ (k : Nat) (x : Nat × va_E), (wldn g B (hB u) n)[k]? = some x → H1[x.1]? = H[x.1]? := fun k x hx => o1 x.1 (by have := (hP k x hx).lt; omega)
  refine kk H1 ⟨?_, by omega, ⟨Nat.le_trans hS.1 (by omega), fun x h1 h2 => (o1 x (by have := hS.1; omega)).trans (hS.2.1 x h1 h2), hS.2.2⟩, hB0⟩
  rw [wldn_succ, wldn_ext (h' := hB u) (fun c hc => by funext k; unfold hB; simp only [if_neg (show ¬ c = n by omega)])]
  refine (hP.kept hkp).app (fun k x hx => ?_)
  have hz : k < 1 := (List.getElem?_eq_some_iff.mp hx).1
  rw [show k = 0 by omega] at hx
  cases hx
  rw [zce_obj hk]
  refine ⟨_, hc, (u_born ty hts hin hKn hkC e1 hty).to (fun j hj => ?_)⟩
  rw [hdf j hj]
  unfold vp_V
  rw [List.getD_eq_getElem?_getD, List.getElem?_map, List.getElem?_range (by omega)]
  show _ = svv B (zsk n j) (hB _ n j)
  rw [zsk_obj hk]
  unfold hB
  simp only [if_true]
  by_cases q : isR n j = true
  · rw [if_pos q, if_pos q]
  · rw [if_neg q, if_neg q, hfn j (by simpa using q)]
theorem lpre {As : List Value} (cn : Cw p s m args c cc nL own g) (hn : Hn g B s u n H locs) : ∀ U : State, U.heap = H → s.WarmedH U.vm → va_Pc As (Rnq g B u n) As.toArray U := fun U hU hW => by
  obtain ⟨hx, hb, hml, hown, hts, hK, hns, hao, hal⟩ := cn
  exact ⟨rfl, ⟨by rw [hU]; exact hn.1, by rw [hU]; exact hn.2.1⟩, va_K.moved hW.alike hK, fun w hw => va_Nw.warmM hW (hns w hw), hao.moved hW.alike, hal.moved hW.alike⟩
theorem l_run {y : MethodName} {cy : ByteArray} {ny fr mc ms np idx b : Nat} {As rest : List Value} {u' : Nat → Nat → Bool} (cn : Cw p s m args c cc nL own g) (hn : Hn g B s u n H locs) (hM : CTn l g B y cy ny fr mc ms (.ref (B + b) :: As) u n u') (hw : IW y cy ny np) (hl : Cond.methodLink own idx y ∈ AW ∨ (own, idx, y) ∈ zNi) (hR : (rmc fr mc ms).frames + 1 ≤ R.frames ∧ 8 + (ny + 11) + (rmc fr mc ms).locals ≤ R.locals) (hcs : cells + mc ≤ R.cells ∧ slots + ms ≤ R.slots) (hnp : As.length = np) (hls : ls.size = nL) (hst : st = As.reverse ++ .ref (B + b) :: rest) (hr : (rest.map fun v => v.category).sum ≤ 8) (hd : decode cc pc = .ok (.invokespecial idx, 3))
    (kk : ∀ H1 locs1, Hn g B s u' (n + mc) H1 locs1 → W p l e R s m args below meth c H1 locs1 (cells + mc) (slots + ms) Q (F0 m (pc + 3) ls rest)) : W p l e R s m args below meth c H locs cells slots Q (F0 m pc ls st) := by
  have cn0 := cn
  obtain ⟨hx, hb, hml, hown, hts, hK, hns, hao, hal⟩ := cn
  obtain ⟨w1, w2, w3, w4, w5⟩ := hw
  have hrun : va_Run p l e R s m args below meth c H locs cells slots mc ms (F0 m pc ls st) rest (zQn g B u' (n + mc) (Value.ref (B + b) :: As).toArray) (aA B) := by
    rcases hl with hl | hl
    · exact va_runI (Ts := AW) (bytes := cy) (maxL := ny) (n := np) ⟨hx, hb, hml, hown, hts⟩ hM ⟨callB_of np hts (aw_cons w3) rfl rfl rfl (hts _ w2) (hts _ hl) w4 hR, w5, hts _ w1⟩ ⟨nblind, lpre cn0 hn⟩ rfl hnp hls hst (lv_room hr) hd hcs
    · refine va_runIN (Ts := AW) (host := RX11) (bytes := cy) (maxL := ny) (n := np) ⟨hx, hb, hml, hown, hts⟩ hM ⟨⟨⟨rfl, rfl, hR.1, hR.2, pay_in hts (aw_cons w3), List.mem_cons_self⟩, hts _ w3, hts _ w2, ⟨w4.1, w4.2.1⟩, fun sig q => ?_, va_Nw.use rfl (hns _ hl)⟩, w5, hts _ w1⟩ ⟨nblind, lpre cn0 hn⟩ rfl hnp hls hst (lv_room hr) hd hcs
      have h3 := w4.2.2
      rw [q] at h3
      exact (Option.some.inj h3).symm
  refine va_callv hrun hn.2.2.1 (fun q _ h => h) (fun q h => h) (fun v t H1 locs1 ht hvm hw hB hz1 hk1 hS => ?_)
  obtain ⟨hP1, hs1⟩ := hB
  rw [ht] at hP1 hs1
  exact kk H1 locs1 ⟨hP1, hs1, hS, hn.2.2.2⟩
end ZD
theorem Gd_hFin : Gd hFin := by
  intro c k
  have h0 : c = 0 → zsk c k = (2, (zsk c k).2) → (zsk c k).2 = 7 := by
    intro e h
    subst e
    have e1 : zsk 0 k = zfk 11 k 0 := zsk_obj (by decide)
    rw [e1] at h ⊢
    match k, h with
    | 0, h => cases h
    | 1, h => cases h
    | 2, h => cases h
    | 3, h => cases h
    | 4, h => cases h
    | 5, h => cases h
    | 6, _ => rfl
    | 7, h => cases h
    | 8, h => cases h
    | 9, h => cases h
    | 10, h => cases h
    | 11, h => cases h
    | 12, h => cases h
    | 13, h => cases h
    | 14, h => cases h
    | 15, h => cases h
    | k + 16, h => cases h
  have h7 : c = 77 → (zsk c k) = (2, 7) := by
    intro e; subst e; rfl
  unfold hFin okS
  generalize hz : zsk c k = q at h0 h7
  obtain ⟨a, t⟩ := q
  match a, hz, h0, h7 with
  | 0, _, _, _ => exact rng_0
  | 1, _, _, _ => rfl
  | 2, _, h0, h7 =>
    show (if c = 0 then (78 : Int) else if c = 77 ∧ k < 4 then ((149 + 8 * k : Nat) : Int) else -1) = -1 ∨ ∃ a : Nat, (if c = 0 then (78 : Int) else if c = 77 ∧ k < 4 then ((149 + 8 * k : Nat) : Int) else -1) = (a : Int) ∧ kt a = t
    by_cases e : c = 0
    · rw [if_pos e]
      have h1 : t = 7 := h0 e rfl
      exact Or.inr ⟨78, rfl, by rw [h1]; decide⟩
    · rw [if_neg e]
      by_cases e7 : c = 77 ∧ k < 4
      · rw [if_pos e7]
        have h2 : t = 7 := by have := h7 e7.1; cases this; rfl
        refine Or.inr ⟨149 + 8 * k, rfl, ?_⟩
        rw [h2]
        match k, e7.2 with
        | 0, _ => decide
        | 1, _ => decide
        | 2, _ => decide
        | 3, _ => decide
        | k + 4, h => exact absurd h (by omega)
      · rw [if_neg e7]; exact Or.inl rfl
  | a + 3, _, _, _ => exact Or.inl rfl
theorem l_st {b : Nat} {s : State} (hgv : (Jvm.Cond.and given_1 narrow_1).before #[Value.ref b] s = true) (hts : ∀ w ∈ lw_tbl, w.before #[Value.ref b] s = true) : zSt s.heap.size s := by
  have hs := flat_of_before _ hgv
  have hA : ∀ a : Nat, a < s.heap.size → ¬ aA s.heap.size a := fun a ha => Nat.not_le.mpr ha
  obtain ⟨t, ht, hT⟩ := va_Tof (tm := (Term.static "AlgebraCabinet$ModelSearch" "NUMBERINGS" "[I")) (ty := .int) (N := 8) (f := fun k => .int (ii (zNum k))) (A := aA s.heap.size) (by decide) (hs (.arrayOf (Term.static "AlgebraCabinet$ModelSearch" "NUMBERINGS" "[I") .int) (by decide +kernel)) (va_eqt (hs (.eq (.length (Term.static "AlgebraCabinet$ModelSearch" "NUMBERINGS" "[I")) (.int 8)) (by decide +kernel))) (fun j hj => by
    match j, hj with
    | 0, _ => exact va_eqt (hs (.eq (.elem (Term.static "AlgebraCabinet$ModelSearch" "NUMBERINGS" "[I") (.int 0)) (.int 1)) (by decide +kernel))
    | 1, _ => exact va_eqt (hs (.eq (.elem (Term.static "AlgebraCabinet$ModelSearch" "NUMBERINGS" "[I") (.int 1)) (.int 1)) (by decide +kernel))
    | 2, _ => exact va_eqt (hs (.eq (.elem (Term.static "AlgebraCabinet$ModelSearch" "NUMBERINGS" "[I") (.int 2)) (.int 2)) (by decide +kernel))
    | 3, _ => exact va_eqt (hs (.eq (.elem (Term.static "AlgebraCabinet$ModelSearch" "NUMBERINGS" "[I") (.int 3)) (.int 6)) (by decide +kernel))
    | 4, _ => exact va_eqt (hs (.eq (.elem (Term.static "AlgebraCabinet$ModelSearch" "NUMBERINGS" "[I") (.int 4)) (.int 24)) (by decide +kernel))
    | 5, _ => exact va_eqt (hs (.eq (.elem (Term.static "AlgebraCabinet$ModelSearch" "NUMBERINGS" "[I") (.int 5)) (.int 120)) (by decide +kernel))
    | 6, _ => exact va_eqt (hs (.eq (.elem (Term.static "AlgebraCabinet$ModelSearch" "NUMBERINGS" "[I") (.int 6)) (.int 720)) (by decide +kernel))
    | 7, _ => exact va_eqt (hs (.eq (.elem (Term.static "AlgebraCabinet$ModelSearch" "NUMBERINGS" "[I") (.int 7)) (.int 5040)) (by decide +kernel))
    | j + 8, hj => exact absurd hj (by omega)) hA
  exact ⟨t, va_Zref (hts (.laysStatic "AlgebraCabinet$ModelSearch" "NUMBERINGS" "[I") (List.mem_of_getElem? (i := 1214) (by decide +kernel))) (hts (.initialized "AlgebraCabinet$ModelSearch") (List.mem_of_getElem? (i := 141) (by decide +kernel))) ht hA, hT⟩
theorem l_g {args : Array Value} {s : State} (hts : ∀ w ∈ AW, w.before args s = true) (ho : va_AO RX0 s) (hl : va_AO RX4 s) : ∃ g : zG, va_K g.1 vwCl (zTys g) s := by
  obtain ⟨c0, i0, k0⟩ := u_known (C := RX0) (T := TX0) (N := 6) (n := 6) hts zin_0 (hts _ in_X0.1)
  obtain ⟨c1, i1, k1⟩ := u_known (C := RX1) (T := TX1) (N := 2) (n := 2) hts zin_1 (hts _ in_X1.1)
  obtain ⟨c2, i2, k2⟩ := u_known (C := RX2) (T := TX2) (N := 5) (n := 5) hts zin_2 (hts _ in_X2.1)
  obtain ⟨c3, i3, k3⟩ := u_known (C := RX3) (T := TX3) (N := 4) (n := 4) hts zin_3 (hts _ in_X3.1)
  obtain ⟨c4, i4, k4⟩ := u_known (C := RX4) (T := TX4) (N := 10) (n := 10) hts zin_4 (hts _ in_X4.1)
  obtain ⟨c5, i5, k5⟩ := u_known (C := RX5) (T := TX5) (N := 5) (n := 5) hts zin_5 (hts _ in_X5.1)
  obtain ⟨c6, i6, k6⟩ := u_known (C := RX6) (T := TX6) (N := 6) (n := 6) hts zin_6 (hts _ in_X6.1)
  obtain ⟨c7, i7, k7⟩ := u_known (C := RX7) (T := TX7) (N := 15) (n := 15) hts zin_7 (hts _ in_X7.1)
  obtain ⟨c8, i8, k8⟩ := u_known (C := RX8) (T := TX8) (N := 4) (n := 4) hts zin_8 (hts _ in_X8.1)
  obtain ⟨c9, i9, k9⟩ := u_known (C := RX9) (T := TX9) (N := 6) (n := 6) hts zin_9 (hts _ in_X9.1)
  obtain ⟨c10, i10, k10⟩ := u_known (C := RX10) (T := TX10) (N := 9) (n := 9) hts zin_10 (hts _ in_X10.1)
  obtain ⟨c11, i11, k11⟩ := u_known (C := RX11) (T := TX11) (N := 16) (n := 16) hts zin_11 (hts _ in_X11.1)
  obtain ⟨c12, i12, k12⟩ := u_known (C := RX12) (T := TX12) (N := 55) (n := 55) hts zin_12 (hts _ in_X12.1)
  obtain ⟨cI, kI, pI, a1, a2, a3⟩ := Cond.arrayClass_spec (hts _ zw_ac)
  obtain ⟨pA, cA, kA, b1, -, b2, b3, b4⟩ := Cond.arrayOver_spec ho
  obtain ⟨pL, cL, kL, d1, -, d2, d3, d4⟩ := Cond.arrayOver_spec hl
  refine ⟨((fun k => match k with | 0 => c0 | 1 => c1 | 2 => c2 | 3 => c3 | 4 => c4 | 5 => c5 | 6 => c6 | 7 => c7 | 8 => c8 | 9 => c9 | 10 => c10 | 11 => c11 | _ => c12, fun k => match k with | 0 => i0 | 1 => i1 | 2 => i2 | 3 => i3 | 4 => i4 | 5 => i5 | 6 => i6 | 7 => i7 | 8 => i8 | 9 => i9 | 10 => i10 | 11 => i11 | _ => i12), cI, cA, cL), fun k q hq => ?_, fun k q hq => ?_⟩
  · match k, hq with
    | 0, hq => cases hq; exact k0
    | 1, hq => cases hq; exact k1
    | 2, hq => cases hq; exact k2
    | 3, hq => cases hq; exact k3
    | 4, hq => cases hq; exact k4
    | 5, hq => cases hq; exact k5
    | 6, hq => cases hq; exact k6
    | 7, hq => cases hq; exact k7
    | 8, hq => cases hq; exact k8
    | 9, hq => cases hq; exact k9
    | 10, hq => cases hq; exact k10
    | 11, hq => cases hq; exact k11
    | 12, hq => cases hq; exact k12
    | k + 13, hq => cases hq
  · match k, hq with
    | 0, hq => cases hq; exact ⟨fun n z => ⟨fun k h => (by cases h), kI, a2, pI, a3⟩, a1⟩
    | 1, hq => cases hq; exact ⟨fun n z => ⟨fun k h => (by cases h), kA, b2, pA, b3⟩, kA, pA, b2, b3, b1, b4⟩
    | 2, hq => cases hq; exact ⟨fun n z => ⟨fun k h => (by cases h), kL, d2, pL, d3⟩, kL, pL, d2, d3, d1, d4⟩
    | k + 3, hq => cases hq
theorem dL_0 : decode code 0 = .ok (.new 7, 3) := by decide +kernel
theorem dL_3 : decode code 3 = .ok (.dup, 1) := by decide +kernel
theorem dL_4 : decode code 4 = .ok (.invokespecial 9, 3) := by decide +kernel
theorem dL_7 : decode code 7 = .ok (.astore_n 1, 1) := by decide +kernel
theorem dL_8 : decode code 8 = .ok (.new 10, 3) := by decide +kernel
theorem dL_11 : decode code 11 = .ok (.dup, 1) := by decide +kernel
theorem dL_12 : decode code 12 = .ok (.invokespecial 12, 3) := by decide +kernel
theorem dL_15 : decode code 15 = .ok (.astore_n 2, 1) := by decide +kernel
theorem dL_16 : decode code 16 = .ok (.iconst 0, 1) := by decide +kernel
theorem dL_17 : decode code 17 = .ok (.istore_n 3, 1) := by decide +kernel
theorem dL_18 : decode code 18 = .ok (.iload_n 3, 1) := by decide +kernel
theorem dL_19 : decode code 19 = .ok (.aload_n 0, 1) := by decide +kernel
theorem dL_20 : decode code 20 = .ok (.arraylength, 1) := by decide +kernel
theorem dL_21 : decode code 21 = .ok (.bipush 6, 2) := by decide +kernel
theorem dL_23 : decode code 23 = .ok (.isub, 1) := by decide +kernel
theorem dL_24 : decode code 24 = .ok (.if_icmp .gt 1537, 3) := by decide +kernel
theorem dL_27 : decode code 27 = .ok (.aload_n 0, 1) := by decide +kernel
theorem dL_28 : decode code 28 = .ok (.iload_n 3, 1) := by decide +kernel
theorem dL_29 : decode code 29 = .ok (.iaload, 1) := by decide +kernel
theorem dL_30 : decode code 30 = .ok (.bipush 63, 2) := by decide +kernel
theorem dL_32 : decode code 32 = .ok (.iand, 1) := by decide +kernel
theorem dL_33 : decode code 33 = .ok (.tableswitch 1522 0 34 #[155, 218, 241, 264, 307, 370, 433, 496, 529, 552, 575, 598, 611, 644, 687, 720, 743, 756, 789, 832, 875, 908, 941, 984, 1027, 1060, 1129, 1172, 1225, 1258, 1291, 1334, 1367, 1436, 1499], 155) := by decide +kernel
theorem dL_1555 : decode code 1555 = .ok (.iinc 3 6, 3) := by decide +kernel
theorem dL_1558 : decode code 1558 = .ok (.goto (-1540), 3) := by decide +kernel
theorem dL_1561 : decode code 1561 = .ok (.iconst 1, 1) := by decide +kernel
theorem dL_1562 : decode code 1562 = .ok (.ireturn, 1) := by decide +kernel
set_option maxHeartbeats 8000000 in
set_option maxRecDepth 100000 in
theorem law_loop {p : Program} {l : Launch} {e : Env} {s : State} {m : MethodId} {below : List Frame} {meth : Method} {c : Code} {g : zG} {b L : Nat} {xs : Nat → Int32} {F : Nat} {Inv : HF → Prop} (H0 : PS_feed F Inv) (H1 : PS_trim F Inv) (H2 : PS_out F Inv) (H3 : PS_make F Inv) (H4 : PS_set F Inv) (H5 : PS_cell F Inv) (H6 : PS_stamp F Inv) (H7 : PS_about F Inv) (H8 : PS_drop F Inv) (H9 : PS_tell F Inv) (H10 : PS_read F Inv) (H11 : PS_undo F Inv) (H12 : PS_traits F Inv) (H13 : PS_powers F Inv) (H14 : PS_centre F Inv) (H15 : PS_laws F Inv) (H16 : PS_fault F Inv) (H17 : PS_holds F Inv) (H18 : PS_fails F Inv) (H19 : PS_witness F Inv) (H20 : PS_span F Inv) (H21 : PS_part F Inv) (H22 : PS_sub F Inv) (H23 : PS_link F Inv) (H24 : PS_congruence F Inv) (H25 : PS_bound F Inv) (H26 : PS_quotient F Inv) (H27 : PS_map F Inv) (H28 : PS_alike F Inv) (H29 : PS_least F Inv) (H30 : PS_product F Inv) (H31 : PS_function F Inv) (H32 : PS_models F Inv) (H33 : PS_model F Inv) (H34 : PS_count F Inv) (lx : Lx p s m meth c b L xs g) : ∀ (n : Nat) (x : Int) (h : HF) (H : Heap) (locs : List Loc) (ls : Array Slot), 0 ≤ x → x ≤ 4000 → (L : Int) + 1 ≤ x + (n : Int) → Inv h → Hp g s.heap.size s h H locs → lv_has ls 4 [(0, .ref b), (1, .ref (s.heap.size + 0)), (2, .ref (s.heap.size + 181)), (3, .int (ii x))] → W p l e room_1 s m #[Value.ref b] below meth c H locs 217 21720 (lw_Z below #[Value.ref b] s) (F0 m 18 ls []) := by
  have lx0 := lx
  obtain ⟨cx, hX, hbl, hL⟩ := lx
  have hcs : 217 ≤ room_1.cells ∧ 21720 ≤ room_1.slots := ⟨by decide, by decide⟩
  intro n
  induction n with
  | zero =>
    intro x h H locs ls h0 h1 h2 hI hp hl
    have rx : rng x := ⟨by omega, by omega⟩
    have rL : rng ((L : Int) - 6) := ⟨by omega, by omega⟩
    refine lv_iload_n cx.1 cx.2.1 dL_18 rfl (lv_at hl 3 rfl) ?_
    refine lv_aload_n cx.1 cx.2.1 dL_19 rfl (lv_at hl 0 rfl) ?_
    refine va_slen (A := aA s.heap.size) cx.1 cx.2.1 hX hbl (Nat.not_le.mpr hbl) hp.2.2 dL_20 ?_
    refine lv_bipush (v := ii 6) cx.1 cx.2.1 dL_21 (by decide) ?_
    refine lv_isub cx.1 cx.2.1 dL_23 ?_
    rw [show (Int32.ofNat L - ii 6) = ii ((L : Int) - 6) from (ii_sub (L : Int) 6).trans (by rw [wr_id rL])]
    refine lv_icmp_gt (tgt := 1561) cx.1 cx.2.1 dL_24 (by decide) (fun q => ?_) (fun q => absurd ((ii_lt rL rx).mpr (by omega)) q)
    refine lv_iconst (v := 1) cx.1 cx.2.1 dL_1561 (by decide) ?_
    refine va_forget (fun q hq => hp.2.2.2.2 q hq) ?_
    refine W.widen (k := 600000) (n := 7302250) (by decide) (by decide) ?_
    exact lw_ret cx.1 cx.2.1 cx.2.2.2.2.2.2.1 cx.2.2.2.2.2.2.2.1 dL_1562
  | succ n ih =>
    intro x h H locs ls h0 h1 h2 hI hp hl
    have rx : rng x := ⟨by omega, by omega⟩
    have rL : rng ((L : Int) - 6) := ⟨by omega, by omega⟩
    refine lv_iload_n cx.1 cx.2.1 dL_18 rfl (lv_at hl 3 rfl) ?_
    refine lv_aload_n cx.1 cx.2.1 dL_19 rfl (lv_at hl 0 rfl) ?_
    refine va_slen (A := aA s.heap.size) cx.1 cx.2.1 hX hbl (Nat.not_le.mpr hbl) hp.2.2 dL_20 ?_
    refine lv_bipush (v := ii 6) cx.1 cx.2.1 dL_21 (by decide) ?_
    refine lv_isub cx.1 cx.2.1 dL_23 ?_
    rw [show (Int32.ofNat L - ii 6) = ii ((L : Int) - 6) from (ii_sub (L : Int) 6).trans (by rw [wr_id rL])]
    refine lv_icmp_gt (tgt := 1561) cx.1 cx.2.1 dL_24 (by decide) (fun q => ?_) (fun q => ?_)
    · refine lv_iconst (v := 1) cx.1 cx.2.1 dL_1561 (by decide) ?_
      refine va_forget (fun q hq => hp.2.2.2.2 q hq) ?_
      refine W.widen (k := 600000) (n := 7302250) (by decide) (by decide) ?_
      exact lw_ret cx.1 cx.2.1 cx.2.2.2.2.2.2.1 cx.2.2.2.2.2.2.2.1 dL_1562
    · have hlt : x + 6 ≤ (L : Int) := by
        rcases Int.lt_or_le ((L : Int) - 6) x with z | z
        · exact absurd ((ii_lt rL rx).mpr z) q
        · omega
      have next : ∀ (h : HF) (H : Heap) (locs : List Loc), Inv h → Hp g s.heap.size s h H locs → W p l e room_1 s m #[Value.ref b] below meth c H locs 217 21720 (lw_Z below #[Value.ref b] s) (F0 m 1555 ls []) := by
        intro h H locs hI hp
        refine lv_iinc (v := ii (x + 6)) (lv' := [(3, .int (ii (x + 6))), (0, .ref b), (1, .ref (s.heap.size + 0)), (2, .ref (s.heap.size + 181))]) cx.1 cx.2.1 dL_1555 hl (k := 3) rfl ((ii_add x 6).trans (by rw [wr_id ⟨by omega, by omega⟩])) (by decide) rfl (fun ls hl => ?_)
        refine lv_goto (tgt := 18) cx.1 cx.2.1 dL_1558 (by decide) ?_
        exact ih (x + 6) h H locs ls (by omega) (by omega) (by omega) hI hp (lv_sub hl [1, 2, 3, 0] rfl)
      refine l_arg0 lx0 hp hl ⟨by omega, by omega⟩ dL_27 dL_28 dL_29 ?_
      refine lv_bipush (v := ii 63) cx.1 cx.2.1 dL_30 (by decide) ?_
      refine lv_iand cx.1 cx.2.1 dL_32 ?_
      generalize hv : (ii (xs x.toNat).toInt &&& ii 63) = w
      obtain ⟨v, rv, e⟩ : ∃ v : Int, rng v ∧ w = ii v := ⟨w.toInt, rng_ti w, (ti_ii w).symm⟩
      rw [e]
      clear hv e
      rcases (show v = 0 ∨ v = 1 ∨ v = 2 ∨ v = 3 ∨ v = 4 ∨ v = 5 ∨ v = 6 ∨ v = 7 ∨ v = 8 ∨ v = 9 ∨ v = 10 ∨ v = 11 ∨ v = 12 ∨ v = 13 ∨ v = 14 ∨ v = 15 ∨ v = 16 ∨ v = 17 ∨ v = 18 ∨ v = 19 ∨ v = 20 ∨ v = 21 ∨ v = 22 ∨ v = 23 ∨ v = 24 ∨ v = 25 ∨ v = 26 ∨ v = 27 ∨ v = 28 ∨ v = 29 ∨ v = 30 ∨ v = 31 ∨ v = 32 ∨ v = 33 ∨ v = 34 ∨ (v < 0 ∨ 34 < v) by omega) with q | q | q | q | q | q | q | q | q | q | q | q | q | q | q | q | q | q | q | q | q | q | q | q | q | q | q | q | q | q | q | q | q | q | q | q
      · rw [q]
        refine lv_tableIn (off := 155) (tgt := 188) cx.1 cx.2.1 dL_33 (by decide) (by decide) (by rfl) (by decide) ?_
        exact lc_0 H0 lx0 hcs ⟨h0, hlt⟩ hI hp hl next
      · rw [q]
        refine lv_tableIn (off := 218) (tgt := 251) cx.1 cx.2.1 dL_33 (by decide) (by decide) (by rfl) (by decide) ?_
        exact lc_1 H1 lx0 hcs ⟨h0, hlt⟩ hI hp hl next
      · rw [q]
        refine lv_tableIn (off := 241) (tgt := 274) cx.1 cx.2.1 dL_33 (by decide) (by decide) (by rfl) (by decide) ?_
        exact lc_2 H2 lx0 hcs ⟨h0, hlt⟩ hI hp hl next
      · rw [q]
        refine lv_tableIn (off := 264) (tgt := 297) cx.1 cx.2.1 dL_33 (by decide) (by decide) (by rfl) (by decide) ?_
        exact lc_3 H3 lx0 hcs ⟨h0, hlt⟩ hI hp hl next
      · rw [q]
        refine lv_tableIn (off := 307) (tgt := 340) cx.1 cx.2.1 dL_33 (by decide) (by decide) (by rfl) (by decide) ?_
        exact lc_4 H4 lx0 hcs ⟨h0, hlt⟩ hI hp hl next
      · rw [q]
        refine lv_tableIn (off := 370) (tgt := 403) cx.1 cx.2.1 dL_33 (by decide) (by decide) (by rfl) (by decide) ?_
        exact lc_5 H5 lx0 hcs ⟨h0, hlt⟩ hI hp hl next
      · rw [q]
        refine lv_tableIn (off := 433) (tgt := 466) cx.1 cx.2.1 dL_33 (by decide) (by decide) (by rfl) (by decide) ?_
        exact lc_6 H6 lx0 hcs ⟨h0, hlt⟩ hI hp hl next
      · rw [q]
        refine lv_tableIn (off := 496) (tgt := 529) cx.1 cx.2.1 dL_33 (by decide) (by decide) (by rfl) (by decide) ?_
        exact lc_7 H7 lx0 hcs ⟨h0, hlt⟩ hI hp hl next
      · rw [q]
        refine lv_tableIn (off := 529) (tgt := 562) cx.1 cx.2.1 dL_33 (by decide) (by decide) (by rfl) (by decide) ?_
        exact lc_8 H8 lx0 hcs ⟨h0, hlt⟩ hI hp hl next
      · rw [q]
        refine lv_tableIn (off := 552) (tgt := 585) cx.1 cx.2.1 dL_33 (by decide) (by decide) (by rfl) (by decide) ?_
        exact lc_9 H9 lx0 hcs ⟨h0, hlt⟩ hI hp hl next
      · rw [q]
        refine lv_tableIn (off := 575) (tgt := 608) cx.1 cx.2.1 dL_33 (by decide) (by decide) (by rfl) (by decide) ?_
        exact lc_10 H10 lx0 hcs ⟨h0, hlt⟩ hI hp hl next
      · rw [q]
        refine lv_tableIn (off := 598) (tgt := 631) cx.1 cx.2.1 dL_33 (by decide) (by decide) (by rfl) (by decide) ?_
        exact lc_11 H11 lx0 hcs ⟨h0, hlt⟩ hI hp hl next
      · rw [q]
        refine lv_tableIn (off := 611) (tgt := 644) cx.1 cx.2.1 dL_33 (by decide) (by decide) (by rfl) (by decide) ?_
        exact lc_12 H12 lx0 hcs ⟨h0, hlt⟩ hI hp hl next
      · rw [q]
        refine lv_tableIn (off := 644) (tgt := 677) cx.1 cx.2.1 dL_33 (by decide) (by decide) (by rfl) (by decide) ?_
        exact lc_13 H13 lx0 hcs ⟨h0, hlt⟩ hI hp hl next
      · rw [q]
        refine lv_tableIn (off := 687) (tgt := 720) cx.1 cx.2.1 dL_33 (by decide) (by decide) (by rfl) (by decide) ?_
        exact lc_14 H14 lx0 hcs ⟨h0, hlt⟩ hI hp hl next
      · rw [q]
        refine lv_tableIn (off := 720) (tgt := 753) cx.1 cx.2.1 dL_33 (by decide) (by decide) (by rfl) (by decide) ?_
        exact lc_15 H15 lx0 hcs ⟨h0, hlt⟩ hI hp hl next
      · rw [q]
        refine lv_tableIn (off := 743) (tgt := 776) cx.1 cx.2.1 dL_33 (by decide) (by decide) (by rfl) (by decide) ?_
        exact lc_16 H16 lx0 hcs ⟨h0, hlt⟩ hI hp hl next
      · rw [q]
        refine lv_tableIn (off := 756) (tgt := 789) cx.1 cx.2.1 dL_33 (by decide) (by decide) (by rfl) (by decide) ?_
        exact lc_17 H17 lx0 hcs ⟨h0, hlt⟩ hI hp hl next
      · rw [q]
        refine lv_tableIn (off := 789) (tgt := 822) cx.1 cx.2.1 dL_33 (by decide) (by decide) (by rfl) (by decide) ?_
        exact lc_18 H18 lx0 hcs ⟨h0, hlt⟩ hI hp hl next
      · rw [q]
        refine lv_tableIn (off := 832) (tgt := 865) cx.1 cx.2.1 dL_33 (by decide) (by decide) (by rfl) (by decide) ?_
        exact lc_19 H19 lx0 hcs ⟨h0, hlt⟩ hI hp hl next
      · rw [q]
        refine lv_tableIn (off := 875) (tgt := 908) cx.1 cx.2.1 dL_33 (by decide) (by decide) (by rfl) (by decide) ?_
        exact lc_20 H20 lx0 hcs ⟨h0, hlt⟩ hI hp hl next
      · rw [q]
        refine lv_tableIn (off := 908) (tgt := 941) cx.1 cx.2.1 dL_33 (by decide) (by decide) (by rfl) (by decide) ?_
        exact lc_21 H21 lx0 hcs ⟨h0, hlt⟩ hI hp hl next
      · rw [q]
        refine lv_tableIn (off := 941) (tgt := 974) cx.1 cx.2.1 dL_33 (by decide) (by decide) (by rfl) (by decide) ?_
        exact lc_22 H22 lx0 hcs ⟨h0, hlt⟩ hI hp hl next
      · rw [q]
        refine lv_tableIn (off := 984) (tgt := 1017) cx.1 cx.2.1 dL_33 (by decide) (by decide) (by rfl) (by decide) ?_
        exact lc_23 H23 lx0 hcs ⟨h0, hlt⟩ hI hp hl next
      · rw [q]
        refine lv_tableIn (off := 1027) (tgt := 1060) cx.1 cx.2.1 dL_33 (by decide) (by decide) (by rfl) (by decide) ?_
        exact lc_24 H24 lx0 hcs ⟨h0, hlt⟩ hI hp hl next
      · rw [q]
        refine lv_tableIn (off := 1060) (tgt := 1093) cx.1 cx.2.1 dL_33 (by decide) (by decide) (by rfl) (by decide) ?_
        exact lc_25 H25 lx0 hcs ⟨h0, hlt⟩ hI hp hl next
      · rw [q]
        refine lv_tableIn (off := 1129) (tgt := 1162) cx.1 cx.2.1 dL_33 (by decide) (by decide) (by rfl) (by decide) ?_
        exact lc_26 H26 lx0 hcs ⟨h0, hlt⟩ hI hp hl next
      · rw [q]
        refine lv_tableIn (off := 1172) (tgt := 1205) cx.1 cx.2.1 dL_33 (by decide) (by decide) (by rfl) (by decide) ?_
        exact lc_27 H27 lx0 hcs ⟨h0, hlt⟩ hI hp hl next
      · rw [q]
        refine lv_tableIn (off := 1225) (tgt := 1258) cx.1 cx.2.1 dL_33 (by decide) (by decide) (by rfl) (by decide) ?_
        exact lc_28 H28 lx0 hcs ⟨h0, hlt⟩ hI hp hl next
      · rw [q]
        refine lv_tableIn (off := 1258) (tgt := 1291) cx.1 cx.2.1 dL_33 (by decide) (by decide) (by rfl) (by decide) ?_
        exact lc_29 H29 lx0 hcs ⟨h0, hlt⟩ hI hp hl next
      · rw [q]
        refine lv_tableIn (off := 1291) (tgt := 1324) cx.1 cx.2.1 dL_33 (by decide) (by decide) (by rfl) (by decide) ?_
        exact lc_30 H30 lx0 hcs ⟨h0, hlt⟩ hI hp hl next
      · rw [q]
        refine lv_tableIn (off := 1334) (tgt := 1367) cx.1 cx.2.1 dL_33 (by decide) (by decide) (by rfl) (by decide) ?_
        exact lc_31 H31 lx0 hcs ⟨h0, hlt⟩ hI hp hl next
      · rw [q]
        refine lv_tableIn (off := 1367) (tgt := 1400) cx.1 cx.2.1 dL_33 (by decide) (by decide) (by rfl) (by decide) ?_
        exact lc_32 H32 lx0 hcs ⟨h0, hlt⟩ hI hp hl next
      · rw [q]
        refine lv_tableIn (off := 1436) (tgt := 1469) cx.1 cx.2.1 dL_33 (by decide) (by decide) (by rfl) (by decide) ?_
        exact lc_33 H33 lx0 hcs ⟨h0, hlt⟩ hI hp hl next
      · rw [q]
        refine lv_tableIn (off := 1499) (tgt := 1532) cx.1 cx.2.1 dL_33 (by decide) (by decide) (by rfl) (by decide) ?_
        exact lc_34 H34 lx0 hcs ⟨h0, hlt⟩ hI hp hl next
      · refine lv_tableOut (tgt := 1555) cx.1 cx.2.1 dL_33 (by rw [ii_ti rv]; exact q) (by decide) ?_
        exact next h H locs hI hp
theorem mw_9 : Cond.methodLink R_law 9 yX11_init ∈ AW := (aw_m1 20 (by decide +kernel) rfl)
theorem mw_12 : Cond.methodLink R_law 12 yX12_init ∈ AW := (aw_m5 145 (by decide +kernel) rfl)
theorem cw_7 : Cond.classLink R_law 7 RX11 ∈ AW := (aw_m1 18 (by decide +kernel) rfl)
theorem cw_10 : Cond.classLink R_law 10 RX12 ∈ AW := (aw_m5 143 (by decide +kernel) rfl)
theorem l_ns {args : Array Value} {s : State} (hts : ∀ w ∈ lw_tbl, w.before args s = true) : zNs s := by
  intro q hq
  have H : ∀ q ∈ zNest, Cond.methodLinkNest q.1 q.2.1 q.2.2 RX11 ∈ lw_tbl := by decide +kernel
  exact va_Nw.of rfl (hts _ (H q hq))
theorem l_nj {args : Array Value} {s : State} (hts : ∀ w ∈ lw_tbl, w.before args s = true) : zNj s := by
  intro q hq
  have H : ∀ q ∈ zNi, Cond.methodLinkNest q.1 q.2.1 q.2.2 RX11 ∈ lw_tbl := by decide +kernel
  exact va_Nw.of rfl (hts _ (H q hq))
set_option maxHeartbeats 8000000 in
set_option maxRecDepth 100000 in
/-- THE LAW, from its entry, out of what is still to be proved of the lifted methods (PURE: no machine in it) -/
theorem whole_start_open {p : Program} {e : Env} {s : State} {m : MethodId} {below : List Frame} {meth : Method} {c : Code} (l : Launch) {b L : Nat} {xs : Nat → Int32} {F : Nat} {Inv : HF → Prop} (hI0 : Inv hFin) (H0 : PS_feed F Inv) (H1 : PS_trim F Inv) (H2 : PS_out F Inv) (H3 : PS_make F Inv) (H4 : PS_set F Inv) (H5 : PS_cell F Inv) (H6 : PS_stamp F Inv) (H7 : PS_about F Inv) (H8 : PS_drop F Inv) (H9 : PS_tell F Inv) (H10 : PS_read F Inv) (H11 : PS_undo F Inv) (H12 : PS_traits F Inv) (H13 : PS_powers F Inv) (H14 : PS_centre F Inv) (H15 : PS_laws F Inv) (H16 : PS_fault F Inv) (H17 : PS_holds F Inv) (H18 : PS_fails F Inv) (H19 : PS_witness F Inv) (H20 : PS_span F Inv) (H21 : PS_part F Inv) (H22 : PS_sub F Inv) (H23 : PS_link F Inv) (H24 : PS_congruence F Inv) (H25 : PS_bound F Inv) (H26 : PS_quotient F Inv) (H27 : PS_map F Inv) (H28 : PS_alike F Inv) (H29 : PS_least F Inv) (H30 : PS_product F Inv) (H31 : PS_function F Inv) (H32 : PS_models F Inv) (H33 : PS_model F Inv) (H34 : PS_count F Inv) (hL : L ≤ 3072) (C0 : lw_At p s m meth c b L xs) : W p l e room_1 s m #[Value.ref b] below meth c s.heap [] 0 0 (lw_Z below #[Value.ref b] s) (entryFrame m ([Value.ref b] : List Value).toArray 4) := by
  obtain ⟨hx, hb, hr, hml, hown, hts, hX, hbl, hlocks, hgv⟩ := id C0
  have htw : ∀ w ∈ AW, w.before #[Value.ref b] s = true := fun w hw => hts w (List.mem_filter.mp hw).1
  have hao : va_AO RX0 s := va_AO.of (hts (.arrayOver (.object RX0)) (List.mem_of_getElem? (i := 175) (by decide +kernel)))
  have hal : va_AO RX4 s := va_AO.of (hts (.arrayOver (.object RX4)) (List.mem_of_getElem? (i := 248) (by decide +kernel)))
  obtain ⟨g, hK⟩ := l_g htw hao hal
  have cw : Cw p s m #[Value.ref b] c code 4 R_law g := ⟨hx, hb, hml, hown, htw, hK, l_nj hts, hao, hal⟩
  have lx : Lx p s m meth c b L xs g := ⟨⟨hx, hb, hml, hown, htw, hK, hr, hlocks, l_ns hts, l_st hgv hts⟩, hX, hbl, hL⟩
  have hn : Hn g s.heap.size s (fun _ _ => false) 0 s.heap [] := ⟨fun k q h => by simp [wldn] at h, rfl, va_S.rf, Nat.le_refl _⟩
  have hl := lv_entry ([.ref b]) (n := 4) (Nat.le_of_ble_eq_true rfl)
  rw [lg_entry_eq]
  generalize (lg_sl ([.ref b]) ++ List.replicate (4 - (lg_sl ([.ref b])).length) Slot.unset).toArray = ls at hl ⊢
  have hl : lv_has ls 4 [(0, .ref b)] := hl
  refine l_new cw hn tyX11 tyX11_ok rfl zin_11 (show kt 0 = 11 + 3 from by decide) rfl (nd_11 _ _ (by decide)) (hfn_all _) cw_7 in_X11.1 in_X11.2 (by decide) (by decide) dL_0 (fun H hn => ?_)
  refine lv_dup hx hb dL_3 rfl ?_
  refine l_run (As := []) (rest := [.ref (s.heap.size + 0)]) (mc := 180) (ms := 12809) cw hn (kX11_init l g _ _) iw_X11_init (Or.inl mw_9) ⟨by decide, by decide⟩ ⟨by decide, by decide⟩ rfl hl.1 rfl (Nat.le_of_ble_eq_true rfl) dL_4 (fun H locs hn => ?_)
  refine lv_astore_n (lv' := [(1, .ref (s.heap.size + 0)), (0, .ref b)]) hx hb dL_7 rfl hl (by decide) rfl (fun ls hl => ?_)
  refine l_new cw hn tyX12 tyX12_ok rfl zin_12 (show kt 181 = 12 + 3 from by decide) rfl (nd_12 _ _ (by decide)) (hfn_all _) cw_10 in_X12.1 in_X12.2 (by decide) (by decide) dL_8 (fun H hn => ?_)
  refine lv_dup hx hb dL_11 rfl ?_
  refine l_run (As := []) (rest := [.ref (s.heap.size + 181)]) (mc := 35) (ms := 8840) cw hn (kX12_init l g _ _) iw_X12_init (Or.inl mw_12) ⟨by decide, by decide⟩ ⟨by decide, by decide⟩ rfl hl.1 rfl (Nat.le_of_ble_eq_true rfl) dL_12 (fun H locs hn => ?_)
  refine lv_astore_n (lv' := [(2, .ref (s.heap.size + 181)), (1, .ref (s.heap.size + 0)), (0, .ref b)]) hx hb dL_15 rfl hl (by decide) rfl (fun ls hl => ?_)
  refine lv_iconst (v := ii 0) hx hb dL_16 rfl ?_
  refine lv_istore_n (lv' := [(3, .int (ii 0)), (2, .ref (s.heap.size + 181)), (1, .ref (s.heap.size + 0)), (0, .ref b)]) hx hb dL_17 rfl hl (by decide) rfl (fun ls hl => ?_)
  have hp : Hp g s.heap.size s hFin H locs := by
    obtain ⟨h1, -, h3, -⟩ := hn
    refine ⟨?_, Gd_hFin, h3⟩
    have h2 : wldn g s.heap.size (hB (fun c k => if c < 181 then (fun c k => if c < 0 then (fun _ _ => false) c k else false) c k else false)) 217 = wldn g s.heap.size hFin 217 := wldn_ext (fun c _ => by
      funext k
      unfold hB
      simp)
    rw [← wldn_all]
    show va_P g.1 vwCl (wldn g s.heap.size hFin 217) H
    rw [← h2]
    exact h1
  refine W.widen (k := 217) (n := 21720) (by decide) (by decide) ?_
  exact law_loop H0 H1 H2 H3 H4 H5 H6 H7 H8 H9 H10 H11 H12 H13 H14 H15 H16 H17 H18 H19 H20 H21 H22 H23 H24 H25 H26 H27 H28 H29 H30 H31 H32 H33 H34 lx (L + 1) 0 hFin H locs ls (by decide) (by decide) (by omega) hI0 hp (lv_sub hl [3, 2, 1, 0] rfl)
