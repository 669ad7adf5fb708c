theorem dL_529 : decode code 529 = .ok (.aload_n 1, 1) := by decide +kernel
theorem dL_530 : decode code 530 = .ok (.aload_n 0, 1) := by decide +kernel
theorem dL_531 : decode code 531 = .ok (.iload_n 3, 1) := by decide +kernel
theorem dL_532 : decode code 532 = .ok (.iconst 1, 1) := by decide +kernel
theorem dL_533 : decode code 533 = .ok (.iadd, 1) := by decide +kernel
theorem dL_534 : decode code 534 = .ok (.iaload, 1) := by decide +kernel
theorem dL_535 : decode code 535 = .ok (.aload_n 0, 1) := by decide +kernel
theorem dL_536 : decode code 536 = .ok (.iload_n 3, 1) := by decide +kernel
theorem dL_537 : decode code 537 = .ok (.iconst 2, 1) := by decide +kernel
theorem dL_538 : decode code 538 = .ok (.iadd, 1) := by decide +kernel
theorem dL_539 : decode code 539 = .ok (.iaload, 1) := by decide +kernel
theorem dL_540 : decode code 540 = .ok (.invokevirtual 44, 3) := by decide +kernel
theorem dL_543 : decode code 543 = .ok (.aload_n 2, 1) := by decide +kernel
theorem dL_544 : decode code 544 = .ok (.aload_n 0, 1) := by decide +kernel
theorem dL_545 : decode code 545 = .ok (.iload_n 3, 1) := by decide +kernel
theorem dL_546 : decode code 546 = .ok (.iconst 1, 1) := by decide +kernel
theorem dL_547 : decode code 547 = .ok (.iadd, 1) := by decide +kernel
theorem dL_548 : decode code 548 = .ok (.iaload, 1) := by decide +kernel
theorem dL_549 : decode code 549 = .ok (.aload_n 0, 1) := by decide +kernel
theorem dL_550 : decode code 550 = .ok (.iload_n 3, 1) := by decide +kernel
theorem dL_551 : decode code 551 = .ok (.iconst 2, 1) := by decide +kernel
theorem dL_552 : decode code 552 = .ok (.iadd, 1) := by decide +kernel
theorem dL_553 : decode code 553 = .ok (.iaload, 1) := by decide +kernel
theorem dL_554 : decode code 554 = .ok (.invokevirtual 48, 3) := by decide +kernel
theorem dL_557 : decode code 557 = .ok (.if_icmp .eq 998, 3) := by decide +kernel
theorem ml_L_44 : Cond.methodLink R_law 44 yX11_about ∈ AW := (aw_m3 91 (by decide +kernel) rfl)
theorem ml_L_48 : Cond.methodLink R_law 48 yX12_about ∈ AW := (aw_m6 162 (by decide +kernel) rfl)
set_option maxHeartbeats 4000000 in
set_option maxRecDepth 100000 in
theorem lc_7 {p : Program} {l : Launch} {e : Env} {s : State} {m : MethodId} {below : List Frame} {meth : Method} {c : Code} {H : Heap} {locs : List Loc} {cells slots : Nat} {Q : State → Prop} {g : zG} {h : HF} {ls : Array Slot} {b L : Nat} {xs : Nat → Int32} {F : Nat} {Inv : HF → Prop} (hS : PS_about F Inv) (lx : Lx p s m meth c b L xs g) (hcs : cells ≤ room_1.cells ∧ slots ≤ room_1.slots) {x : Int} (hx : 0 ≤ x ∧ x + 6 ≤ (L : Int)) (hI : Inv h) (hp : Hp g s.heap.size s h H locs) (hl : lv_has ls 4 [(0, .ref b), (1, .ref (s.heap.size + 0)), (2, .ref (s.heap.size + 181)), (3, .int (ii x))]) (kk : ∀ (h : HF) (H : Heap) (locs : List Loc), Inv h → Hp g s.heap.size s h H locs → W p l e room_1 s m #[Value.ref b] below meth c H locs cells slots Q (F0 m 1555 ls [])) : W p l e room_1 s m #[Value.ref b] below meth c H locs cells slots Q (F0 m 529 ls []) := by
  have cx := lx.1
  obtain ⟨s1, e1⟩ : ∃ z, z = (xs (x + 1).toNat).toInt := ⟨_, rfl⟩
  have rs1 : rng s1 := by rw [e1]; exact rng_ti _
  obtain ⟨s2, e2⟩ : ∃ z, z = (xs (x + 2).toNat).toInt := ⟨_, rfl⟩
  have rs2 : rng s2 := by rw [e2]; exact rng_ti _
  obtain ⟨r, h1, h2, f1, f2, hI2⟩ := hS h s1 s2 hI rs1 rs2
  refine lv_aload_n cx.1 cx.2.1 dL_529 rfl (lv_at hl 1 rfl) ?_
  refine l_arg lx hp hl (j := 1) ⟨by omega, by omega⟩ dL_530 dL_531 dL_532 dL_533 dL_534 ?_
  rw [← e1]
  refine l_arg lx hp hl (j := 2) ⟨by omega, by omega⟩ dL_535 dL_536 dL_537 dL_538 dL_539 ?_
  rw [← e2]
  refine l_call (As := [.int (ii s1), .int (ii s2)]) (rest := []) cx hp (mX11_about F l g s.heap.size h 0 s1 s2 (by decide) rs1 rs2) 11 (by decide) (by decide) rfl vw_X11_about ml_L_44 ⟨by decide, by decide⟩ hcs rfl hl.1 rfl (Nat.le_of_ble_eq_true rfl) dL_540 f1 (fun H locs rr hp => ?_)
  refine lv_aload_n cx.1 cx.2.1 dL_543 rfl (lv_at hl 2 rfl) ?_
  refine l_arg lx hp hl (j := 1) ⟨by omega, by omega⟩ dL_544 dL_545 dL_546 dL_547 dL_548 ?_
  rw [← e1]
  refine l_arg lx hp hl (j := 2) ⟨by omega, by omega⟩ dL_549 dL_550 dL_551 dL_552 dL_553 ?_
  rw [← e2]
  refine l_call (As := [.int (ii s1), .int (ii s2)]) (rest := [.int (ii r)]) cx hp (mX12_about F l g s.heap.size h1 181 s1 s2 (by decide) rs1 rs2) 12 (by decide) (by decide) rfl vw_X12_about ml_L_48 ⟨by decide, by decide⟩ hcs rfl hl.1 rfl (Nat.le_of_ble_eq_true rfl) dL_554 f2 (fun H locs rr hp => ?_)
  refine lv_icmp_eq (tgt := 1555) cx.1 cx.2.1 dL_557 (by decide) (fun _ => ?_) (fun q => absurd rfl q)
  exact kk h2 _ _ hI2 hp
theorem dL_562 : decode code 562 = .ok (.aload_n 1, 1) := by decide +kernel
theorem dL_563 : decode code 563 = .ok (.aload_n 0, 1) := by decide +kernel
theorem dL_564 : decode code 564 = .ok (.iload_n 3, 1) := by decide +kernel
theorem dL_565 : decode code 565 = .ok (.iconst 1, 1) := by decide +kernel
theorem dL_566 : decode code 566 = .ok (.iadd, 1) := by decide +kernel
theorem dL_567 : decode code 567 = .ok (.iaload, 1) := by decide +kernel
theorem dL_568 : decode code 568 = .ok (.invokevirtual 49, 3) := by decide +kernel
theorem dL_571 : decode code 571 = .ok (.aload_n 2, 1) := by decide +kernel
theorem dL_572 : decode code 572 = .ok (.aload_n 0, 1) := by decide +kernel
theorem dL_573 : decode code 573 = .ok (.iload_n 3, 1) := by decide +kernel
theorem dL_574 : decode code 574 = .ok (.iconst 1, 1) := by decide +kernel
theorem dL_575 : decode code 575 = .ok (.iadd, 1) := by decide +kernel
theorem dL_576 : decode code 576 = .ok (.iaload, 1) := by decide +kernel
theorem dL_577 : decode code 577 = .ok (.invokevirtual 52, 3) := by decide +kernel
theorem dL_580 : decode code 580 = .ok (.if_icmp .eq 975, 3) := by decide +kernel
theorem ml_L_49 : Cond.methodLink R_law 49 yX11_drop ∈ AW := (aw_m3 99 (by decide +kernel) rfl)
theorem ml_L_52 : Cond.methodLink R_law 52 yX12_drop ∈ AW := (aw_m6 170 (by decide +kernel) rfl)
set_option maxHeartbeats 4000000 in
set_option maxRecDepth 100000 in
theorem lc_8 {p : Program} {l : Launch} {e : Env} {s : State} {m : MethodId} {below : List Frame} {meth : Method} {c : Code} {H : Heap} {locs : List Loc} {cells slots : Nat} {Q : State → Prop} {g : zG} {h : HF} {ls : Array Slot} {b L : Nat} {xs : Nat → Int32} {F : Nat} {Inv : HF → Prop} (hS : PS_drop F Inv) (lx : Lx p s m meth c b L xs g) (hcs : cells ≤ room_1.cells ∧ slots ≤ room_1.slots) {x : Int} (hx : 0 ≤ x ∧ x + 6 ≤ (L : Int)) (hI : Inv h) (hp : Hp g s.heap.size s h H locs) (hl : lv_has ls 4 [(0, .ref b), (1, .ref (s.heap.size + 0)), (2, .ref (s.heap.size + 181)), (3, .int (ii x))]) (kk : ∀ (h : HF) (H : Heap) (locs : List Loc), Inv h → Hp g s.heap.size s h H locs → W p l e room_1 s m #[Value.ref b] below meth c H locs cells slots Q (F0 m 1555 ls [])) : W p l e room_1 s m #[Value.ref b] below meth c H locs cells slots Q (F0 m 562 ls []) := by
  have cx := lx.1
  obtain ⟨s1, e1⟩ : ∃ z, z = (xs (x + 1).toNat).toInt := ⟨_, rfl⟩
  have rs1 : rng s1 := by rw [e1]; exact rng_ti _
  obtain ⟨r, h1, h2, f1, f2, hI2⟩ := hS h s1 hI rs1
  refine lv_aload_n cx.1 cx.2.1 dL_562 rfl (lv_at hl 1 rfl) ?_
  refine l_arg lx hp hl (j := 1) ⟨by omega, by omega⟩ dL_563 dL_564 dL_565 dL_566 dL_567 ?_
  rw [← e1]
  refine l_call (As := [.int (ii s1)]) (rest := []) cx hp (mX11_drop F l g s.heap.size h 0 s1 (by decide) rs1) 11 (by decide) (by decide) rfl vw_X11_drop ml_L_49 ⟨by decide, by decide⟩ hcs rfl hl.1 rfl (Nat.le_of_ble_eq_true rfl) dL_568 f1 (fun H locs rr hp => ?_)
  refine lv_aload_n cx.1 cx.2.1 dL_571 rfl (lv_at hl 2 rfl) ?_
  refine l_arg lx hp hl (j := 1) ⟨by omega, by omega⟩ dL_572 dL_573 dL_574 dL_575 dL_576 ?_
  rw [← e1]
  refine l_call (As := [.int (ii s1)]) (rest := [.int (ii r)]) cx hp (mX12_drop F l g s.heap.size h1 181 s1 (by decide) rs1) 12 (by decide) (by decide) rfl vw_X12_drop ml_L_52 ⟨by decide, by decide⟩ hcs rfl hl.1 rfl (Nat.le_of_ble_eq_true rfl) dL_577 f2 (fun H locs rr hp => ?_)
  refine lv_icmp_eq (tgt := 1555) cx.1 cx.2.1 dL_580 (by decide) (fun _ => ?_) (fun q => absurd rfl q)
  exact kk h2 _ _ hI2 hp
theorem dL_585 : decode code 585 = .ok (.aload_n 1, 1) := by decide +kernel
theorem dL_586 : decode code 586 = .ok (.aload_n 0, 1) := by decide +kernel
theorem dL_587 : decode code 587 = .ok (.iload_n 3, 1) := by decide +kernel
theorem dL_588 : decode code 588 = .ok (.iconst 1, 1) := by decide +kernel
theorem dL_589 : decode code 589 = .ok (.iadd, 1) := by decide +kernel
theorem dL_590 : decode code 590 = .ok (.iaload, 1) := by decide +kernel
theorem dL_591 : decode code 591 = .ok (.invokevirtual 53, 3) := by decide +kernel
theorem dL_594 : decode code 594 = .ok (.aload_n 2, 1) := by decide +kernel
theorem dL_595 : decode code 595 = .ok (.aload_n 0, 1) := by decide +kernel
theorem dL_596 : decode code 596 = .ok (.iload_n 3, 1) := by decide +kernel
theorem dL_597 : decode code 597 = .ok (.iconst 1, 1) := by decide +kernel
theorem dL_598 : decode code 598 = .ok (.iadd, 1) := by decide +kernel
theorem dL_599 : decode code 599 = .ok (.iaload, 1) := by decide +kernel
theorem dL_600 : decode code 600 = .ok (.invokevirtual 56, 3) := by decide +kernel
theorem dL_603 : decode code 603 = .ok (.if_icmp .eq 952, 3) := by decide +kernel
theorem ml_L_53 : Cond.methodLink R_law 53 yX11_tell ∈ AW := (aw_m3 107 (by decide +kernel) rfl)
theorem ml_L_56 : Cond.methodLink R_law 56 yX12_tell ∈ AW := (aw_m6 174 (by decide +kernel) rfl)
set_option maxHeartbeats 4000000 in
set_option maxRecDepth 100000 in
theorem lc_9 {p : Program} {l : Launch} {e : Env} {s : State} {m : MethodId} {below : List Frame} {meth : Method} {c : Code} {H : Heap} {locs : List Loc} {cells slots : Nat} {Q : State → Prop} {g : zG} {h : HF} {ls : Array Slot} {b L : Nat} {xs : Nat → Int32} {F : Nat} {Inv : HF → Prop} (hS : PS_tell F Inv) (lx : Lx p s m meth c b L xs g) (hcs : cells ≤ room_1.cells ∧ slots ≤ room_1.slots) {x : Int} (hx : 0 ≤ x ∧ x + 6 ≤ (L : Int)) (hI : Inv h) (hp : Hp g s.heap.size s h H locs) (hl : lv_has ls 4 [(0, .ref b), (1, .ref (s.heap.size + 0)), (2, .ref (s.heap.size + 181)), (3, .int (ii x))]) (kk : ∀ (h : HF) (H : Heap) (locs : List Loc), Inv h → Hp g s.heap.size s h H locs → W p l e room_1 s m #[Value.ref b] below meth c H locs cells slots Q (F0 m 1555 ls [])) : W p l e room_1 s m #[Value.ref b] below meth c H locs cells slots Q (F0 m 585 ls []) := by
  have cx := lx.1
  obtain ⟨s1, e1⟩ : ∃ z, z = (xs (x + 1).toNat).toInt := ⟨_, rfl⟩
  have rs1 : rng s1 := by rw [e1]; exact rng_ti _
  obtain ⟨r, h1, h2, f1, f2, hI2⟩ := hS h s1 hI rs1
  refine lv_aload_n cx.1 cx.2.1 dL_585 rfl (lv_at hl 1 rfl) ?_
  refine l_arg lx hp hl (j := 1) ⟨by omega, by omega⟩ dL_586 dL_587 dL_588 dL_589 dL_590 ?_
  rw [← e1]
  refine l_call (As := [.int (ii s1)]) (rest := []) cx hp (mX11_tell F l g s.heap.size h 0 s1 (by decide) rs1) 11 (by decide) (by decide) rfl vw_X11_tell ml_L_53 ⟨by decide, by decide⟩ hcs rfl hl.1 rfl (Nat.le_of_ble_eq_true rfl) dL_591 f1 (fun H locs rr hp => ?_)
  refine lv_aload_n cx.1 cx.2.1 dL_594 rfl (lv_at hl 2 rfl) ?_
  refine l_arg lx hp hl (j := 1) ⟨by omega, by omega⟩ dL_595 dL_596 dL_597 dL_598 dL_599 ?_
  rw [← e1]
  refine l_call (As := [.int (ii s1)]) (rest := [.int (ii r)]) cx hp (mX12_tell F l g s.heap.size h1 181 s1 (by decide) rs1) 12 (by decide) (by decide) rfl vw_X12_tell ml_L_56 ⟨by decide, by decide⟩ hcs rfl hl.1 rfl (Nat.le_of_ble_eq_true rfl) dL_600 f2 (fun H locs rr hp => ?_)
  refine lv_icmp_eq (tgt := 1555) cx.1 cx.2.1 dL_603 (by decide) (fun _ => ?_) (fun q => absurd rfl q)
  exact kk h2 _ _ hI2 hp
theorem dL_608 : decode code 608 = .ok (.aload_n 1, 1) := by decide +kernel
theorem dL_609 : decode code 609 = .ok (.aload_n 0, 1) := by decide +kernel
theorem dL_610 : decode code 610 = .ok (.iload_n 3, 1) := by decide +kernel
theorem dL_611 : decode code 611 = .ok (.iconst 1, 1) := by decide +kernel
theorem dL_612 : decode code 612 = .ok (.iadd, 1) := by decide +kernel
theorem dL_613 : decode code 613 = .ok (.iaload, 1) := by decide +kernel
theorem dL_614 : decode code 614 = .ok (.invokevirtual 57, 3) := by decide +kernel
theorem dL_617 : decode code 617 = .ok (.aload_n 2, 1) := by decide +kernel
theorem dL_618 : decode code 618 = .ok (.aload_n 0, 1) := by decide +kernel
theorem dL_619 : decode code 619 = .ok (.iload_n 3, 1) := by decide +kernel
theorem dL_620 : decode code 620 = .ok (.iconst 1, 1) := by decide +kernel
theorem dL_621 : decode code 621 = .ok (.iadd, 1) := by decide +kernel
theorem dL_622 : decode code 622 = .ok (.iaload, 1) := by decide +kernel
theorem dL_623 : decode code 623 = .ok (.invokevirtual 60, 3) := by decide +kernel
theorem dL_626 : decode code 626 = .ok (.if_icmp .eq 929, 3) := by decide +kernel
theorem ml_L_57 : Cond.methodLink R_law 57 yX11_read ∈ AW := (aw_m3 116 (by decide +kernel) rfl)
theorem ml_L_60 : Cond.methodLink R_law 60 yX12_read ∈ AW := (aw_m6 182 (by decide +kernel) rfl)
set_option maxHeartbeats 4000000 in
set_option maxRecDepth 100000 in
theorem lc_10 {p : Program} {l : Launch} {e : Env} {s : State} {m : MethodId} {below : List Frame} {meth : Method} {c : Code} {H : Heap} {locs : List Loc} {cells slots : Nat} {Q : State → Prop} {g : zG} {h : HF} {ls : Array Slot} {b L : Nat} {xs : Nat → Int32} {F : Nat} {Inv : HF → Prop} (hS : PS_read F Inv) (lx : Lx p s m meth c b L xs g) (hcs : cells ≤ room_1.cells ∧ slots ≤ room_1.slots) {x : Int} (hx : 0 ≤ x ∧ x + 6 ≤ (L : Int)) (hI : Inv h) (hp : Hp g s.heap.size s h H locs) (hl : lv_has ls 4 [(0, .ref b), (1, .ref (s.heap.size + 0)), (2, .ref (s.heap.size + 181)), (3, .int (ii x))]) (kk : ∀ (h : HF) (H : Heap) (locs : List Loc), Inv h → Hp g s.heap.size s h H locs → W p l e room_1 s m #[Value.ref b] below meth c H locs cells slots Q (F0 m 1555 ls [])) : W p l e room_1 s m #[Value.ref b] below meth c H locs cells slots Q (F0 m 608 ls []) := by
  have cx := lx.1
  obtain ⟨s1, e1⟩ : ∃ z, z = (xs (x + 1).toNat).toInt := ⟨_, rfl⟩
  have rs1 : rng s1 := by rw [e1]; exact rng_ti _
  obtain ⟨r, h1, h2, f1, f2, hI2⟩ := hS h s1 hI rs1
  refine lv_aload_n cx.1 cx.2.1 dL_608 rfl (lv_at hl 1 rfl) ?_
  refine l_arg lx hp hl (j := 1) ⟨by omega, by omega⟩ dL_609 dL_610 dL_611 dL_612 dL_613 ?_
  rw [← e1]
  refine l_call (As := [.int (ii s1)]) (rest := []) cx hp (mX11_read F l g s.heap.size h 0 s1 (by decide) rs1) 11 (by decide) (by decide) rfl vw_X11_read ml_L_57 ⟨by decide, by decide⟩ hcs rfl hl.1 rfl (Nat.le_of_ble_eq_true rfl) dL_614 f1 (fun H locs rr hp => ?_)
  refine lv_aload_n cx.1 cx.2.1 dL_617 rfl (lv_at hl 2 rfl) ?_
  refine l_arg lx hp hl (j := 1) ⟨by omega, by omega⟩ dL_618 dL_619 dL_620 dL_621 dL_622 ?_
  rw [← e1]
  refine l_call (As := [.int (ii s1)]) (rest := [.int (ii r)]) cx hp (mX12_read F l g s.heap.size h1 181 s1 (by decide) rs1) 12 (by decide) (by decide) rfl vw_X12_read ml_L_60 ⟨by decide, by decide⟩ hcs rfl hl.1 rfl (Nat.le_of_ble_eq_true rfl) dL_623 f2 (fun H locs rr hp => ?_)
  refine lv_icmp_eq (tgt := 1555) cx.1 cx.2.1 dL_626 (by decide) (fun _ => ?_) (fun q => absurd rfl q)
  exact kk h2 _ _ hI2 hp
theorem dL_631 : decode code 631 = .ok (.aload_n 1, 1) := by decide +kernel
theorem dL_632 : decode code 632 = .ok (.invokevirtual 61, 3) := by decide +kernel
theorem dL_635 : decode code 635 = .ok (.aload_n 2, 1) := by decide +kernel
theorem dL_636 : decode code 636 = .ok (.invokevirtual 65, 3) := by decide +kernel
theorem dL_639 : decode code 639 = .ok (.if_icmp .eq 916, 3) := by decide +kernel
theorem ml_L_61 : Cond.methodLink R_law 61 yX11_undo ∈ AW := (aw_m3 155 (by decide +kernel) rfl)
theorem ml_L_65 : Cond.methodLink R_law 65 yX12_undo ∈ AW := (aw_m6 198 (by decide +kernel) rfl)
set_option maxHeartbeats 4000000 in
set_option maxRecDepth 100000 in
theorem lc_11 {p : Program} {l : Launch} {e : Env} {s : State} {m : MethodId} {below : List Frame} {meth : Method} {c : Code} {H : Heap} {locs : List Loc} {cells slots : Nat} {Q : State → Prop} {g : zG} {h : HF} {ls : Array Slot} {b L : Nat} {xs : Nat → Int32} {F : Nat} {Inv : HF → Prop} (hS : PS_undo F Inv) (lx : Lx p s m meth c b L xs g) (hcs : cells ≤ room_1.cells ∧ slots ≤ room_1.slots) {x : Int} (hx : 0 ≤ x ∧ x + 6 ≤ (L : Int)) (hI : Inv h) (hp : Hp g s.heap.size s h H locs) (hl : lv_has ls 4 [(0, .ref b), (1, .ref (s.heap.size + 0)), (2, .ref (s.heap.size + 181)), (3, .int (ii x))]) (kk : ∀ (h : HF) (H : Heap) (locs : List Loc), Inv h → Hp g s.heap.size s h H locs → W p l e room_1 s m #[Value.ref b] below meth c H locs cells slots Q (F0 m 1555 ls [])) : W p l e room_1 s m #[Value.ref b] below meth c H locs cells slots Q (F0 m 631 ls []) := by
  have cx := lx.1
  obtain ⟨r, h1, h2, f1, f2, hI2⟩ := hS h  hI 
  refine lv_aload_n cx.1 cx.2.1 dL_631 rfl (lv_at hl 1 rfl) ?_
  refine l_call (As := []) (rest := []) cx hp (mX11_undo F l g s.heap.size h 0  (by decide) ) 11 (by decide) (by decide) rfl vw_X11_undo ml_L_61 ⟨by decide, by decide⟩ hcs rfl hl.1 rfl (Nat.le_of_ble_eq_true rfl) dL_632 f1 (fun H locs rr hp => ?_)
  refine lv_aload_n cx.1 cx.2.1 dL_635 rfl (lv_at hl 2 rfl) ?_
  refine l_call (As := []) (rest := [.int (ii r)]) cx hp (mX12_undo F l g s.heap.size h1 181  (by decide) ) 12 (by decide) (by decide) rfl vw_X12_undo ml_L_65 ⟨by decide, by decide⟩ hcs rfl hl.1 rfl (Nat.le_of_ble_eq_true rfl) dL_636 f2 (fun H locs rr hp => ?_)
  refine lv_icmp_eq (tgt := 1555) cx.1 cx.2.1 dL_639 (by decide) (fun _ => ?_) (fun q => absurd rfl q)
  exact kk h2 _ _ hI2 hp
theorem dL_644 : decode code 644 = .ok (.aload_n 1, 1) := by decide +kernel
theorem dL_645 : decode code 645 = .ok (.aload_n 0, 1) := by decide +kernel
theorem dL_646 : decode code 646 = .ok (.iload_n 3, 1) := by decide +kernel
theorem dL_647 : decode code 647 = .ok (.iconst 1, 1) := by decide +kernel
theorem dL_648 : decode code 648 = .ok (.iadd, 1) := by decide +kernel
theorem dL_649 : decode code 649 = .ok (.iaload, 1) := by decide +kernel
theorem dL_650 : decode code 650 = .ok (.aload_n 0, 1) := by decide +kernel
theorem dL_651 : decode code 651 = .ok (.iload_n 3, 1) := by decide +kernel
theorem dL_652 : decode code 652 = .ok (.iconst 2, 1) := by decide +kernel
theorem dL_653 : decode code 653 = .ok (.iadd, 1) := by decide +kernel
theorem dL_654 : decode code 654 = .ok (.iaload, 1) := by decide +kernel
theorem dL_655 : decode code 655 = .ok (.invokevirtual 66, 3) := by decide +kernel
theorem dL_658 : decode code 658 = .ok (.aload_n 2, 1) := by decide +kernel
theorem dL_659 : decode code 659 = .ok (.aload_n 0, 1) := by decide +kernel
theorem dL_660 : decode code 660 = .ok (.iload_n 3, 1) := by decide +kernel
theorem dL_661 : decode code 661 = .ok (.iconst 1, 1) := by decide +kernel
theorem dL_662 : decode code 662 = .ok (.iadd, 1) := by decide +kernel
theorem dL_663 : decode code 663 = .ok (.iaload, 1) := by decide +kernel
theorem dL_664 : decode code 664 = .ok (.aload_n 0, 1) := by decide +kernel
theorem dL_665 : decode code 665 = .ok (.iload_n 3, 1) := by decide +kernel
theorem dL_666 : decode code 666 = .ok (.iconst 2, 1) := by decide +kernel
theorem dL_667 : decode code 667 = .ok (.iadd, 1) := by decide +kernel
theorem dL_668 : decode code 668 = .ok (.iaload, 1) := by decide +kernel
theorem dL_669 : decode code 669 = .ok (.invokevirtual 69, 3) := by decide +kernel
theorem dL_672 : decode code 672 = .ok (.if_icmp .eq 883, 3) := by decide +kernel
theorem ml_L_66 : Cond.methodLink R_law 66 yX11_traits ∈ AW := (aw_m3 163 (by decide +kernel) rfl)
theorem ml_L_69 : Cond.methodLink R_law 69 yX12_traits ∈ AW := (aw_m6 202 (by decide +kernel) rfl)
set_option maxHeartbeats 4000000 in
set_option maxRecDepth 100000 in
theorem lc_12 {p : Program} {l : Launch} {e : Env} {s : State} {m : MethodId} {below : List Frame} {meth : Method} {c : Code} {H : Heap} {locs : List Loc} {cells slots : Nat} {Q : State → Prop} {g : zG} {h : HF} {ls : Array Slot} {b L : Nat} {xs : Nat → Int32} {F : Nat} {Inv : HF → Prop} (hS : PS_traits F Inv) (lx : Lx p s m meth c b L xs g) (hcs : cells ≤ room_1.cells ∧ slots ≤ room_1.slots) {x : Int} (hx : 0 ≤ x ∧ x + 6 ≤ (L : Int)) (hI : Inv h) (hp : Hp g s.heap.size s h H locs) (hl : lv_has ls 4 [(0, .ref b), (1, .ref (s.heap.size + 0)), (2, .ref (s.heap.size + 181)), (3, .int (ii x))]) (kk : ∀ (h : HF) (H : Heap) (locs : List Loc), Inv h → Hp g s.heap.size s h H locs → W p l e room_1 s m #[Value.ref b] below meth c H locs cells slots Q (F0 m 1555 ls [])) : W p l e room_1 s m #[Value.ref b] below meth c H locs cells slots Q (F0 m 644 ls []) := by
  have cx := lx.1
  obtain ⟨s1, e1⟩ : ∃ z, z = (xs (x + 1).toNat).toInt := ⟨_, rfl⟩
  have rs1 : rng s1 := by rw [e1]; exact rng_ti _
  obtain ⟨s2, e2⟩ : ∃ z, z = (xs (x + 2).toNat).toInt := ⟨_, rfl⟩
  have rs2 : rng s2 := by rw [e2]; exact rng_ti _
  obtain ⟨r, h1, h2, f1, f2, hI2⟩ := hS h s1 s2 hI rs1 rs2
  refine lv_aload_n cx.1 cx.2.1 dL_644 rfl (lv_at hl 1 rfl) ?_
  refine l_arg lx hp hl (j := 1) ⟨by omega, by omega⟩ dL_645 dL_646 dL_647 dL_648 dL_649 ?_
  rw [← e1]
  refine l_arg lx hp hl (j := 2) ⟨by omega, by omega⟩ dL_650 dL_651 dL_652 dL_653 dL_654 ?_
  rw [← e2]
  refine l_call (As := [.int (ii s1), .int (ii s2)]) (rest := []) cx hp (mX11_traits F l g s.heap.size h 0 s1 s2 (by decide) rs1 rs2) 11 (by decide) (by decide) rfl vw_X11_traits ml_L_66 ⟨by decide, by decide⟩ hcs rfl hl.1 rfl (Nat.le_of_ble_eq_true rfl) dL_655 f1 (fun H locs rr hp => ?_)
  refine lv_aload_n cx.1 cx.2.1 dL_658 rfl (lv_at hl 2 rfl) ?_
  refine l_arg lx hp hl (j := 1) ⟨by omega, by omega⟩ dL_659 dL_660 dL_661 dL_662 dL_663 ?_
  rw [← e1]
  refine l_arg lx hp hl (j := 2) ⟨by omega, by omega⟩ dL_664 dL_665 dL_666 dL_667 dL_668 ?_
  rw [← e2]
  refine l_call (As := [.int (ii s1), .int (ii s2)]) (rest := [.int (ii r)]) cx hp (mX12_traits F l g s.heap.size h1 181 s1 s2 (by decide) rs1 rs2) 12 (by decide) (by decide) rfl vw_X12_traits ml_L_69 ⟨by decide, by decide⟩ hcs rfl hl.1 rfl (Nat.le_of_ble_eq_true rfl) dL_669 f2 (fun H locs rr hp => ?_)
  refine lv_icmp_eq (tgt := 1555) cx.1 cx.2.1 dL_672 (by decide) (fun _ => ?_) (fun q => absurd rfl q)
  exact kk h2 _ _ hI2 hp
theorem dL_677 : decode code 677 = .ok (.aload_n 1, 1) := by decide +kernel
theorem dL_678 : decode code 678 = .ok (.aload_n 0, 1) := by decide +kernel
theorem dL_679 : decode code 679 = .ok (.iload_n 3, 1) := by decide +kernel
theorem dL_680 : decode code 680 = .ok (.iconst 1, 1) := by decide +kernel
theorem dL_681 : decode code 681 = .ok (.iadd, 1) := by decide +kernel
theorem dL_682 : decode code 682 = .ok (.iaload, 1) := by decide +kernel
theorem dL_683 : decode code 683 = .ok (.aload_n 0, 1) := by decide +kernel
theorem dL_684 : decode code 684 = .ok (.iload_n 3, 1) := by decide +kernel
theorem dL_685 : decode code 685 = .ok (.iconst 2, 1) := by decide +kernel
theorem dL_686 : decode code 686 = .ok (.iadd, 1) := by decide +kernel
theorem dL_687 : decode code 687 = .ok (.iaload, 1) := by decide +kernel
theorem dL_688 : decode code 688 = .ok (.aload_n 0, 1) := by decide +kernel
theorem dL_689 : decode code 689 = .ok (.iload_n 3, 1) := by decide +kernel
theorem dL_690 : decode code 690 = .ok (.iconst 3, 1) := by decide +kernel
theorem dL_691 : decode code 691 = .ok (.iadd, 1) := by decide +kernel
theorem dL_692 : decode code 692 = .ok (.iaload, 1) := by decide +kernel
theorem dL_693 : decode code 693 = .ok (.invokevirtual 70, 3) := by decide +kernel
theorem dL_696 : decode code 696 = .ok (.aload_n 2, 1) := by decide +kernel
theorem dL_697 : decode code 697 = .ok (.aload_n 0, 1) := by decide +kernel
theorem dL_698 : decode code 698 = .ok (.iload_n 3, 1) := by decide +kernel
theorem dL_699 : decode code 699 = .ok (.iconst 1, 1) := by decide +kernel
theorem dL_700 : decode code 700 = .ok (.iadd, 1) := by decide +kernel
theorem dL_701 : decode code 701 = .ok (.iaload, 1) := by decide +kernel
theorem dL_702 : decode code 702 = .ok (.aload_n 0, 1) := by decide +kernel
theorem dL_703 : decode code 703 = .ok (.iload_n 3, 1) := by decide +kernel
theorem dL_704 : decode code 704 = .ok (.iconst 2, 1) := by decide +kernel
theorem dL_705 : decode code 705 = .ok (.iadd, 1) := by decide +kernel
theorem dL_706 : decode code 706 = .ok (.iaload, 1) := by decide +kernel
theorem dL_707 : decode code 707 = .ok (.aload_n 0, 1) := by decide +kernel
theorem dL_708 : decode code 708 = .ok (.iload_n 3, 1) := by decide +kernel
theorem dL_709 : decode code 709 = .ok (.iconst 3, 1) := by decide +kernel
theorem dL_710 : decode code 710 = .ok (.iadd, 1) := by decide +kernel
theorem dL_711 : decode code 711 = .ok (.iaload, 1) := by decide +kernel
theorem dL_712 : decode code 712 = .ok (.invokevirtual 73, 3) := by decide +kernel
theorem dL_715 : decode code 715 = .ok (.if_icmp .eq 840, 3) := by decide +kernel
theorem ml_L_70 : Cond.methodLink R_law 70 yX11_powers ∈ AW := (aw_m3 200 (by decide +kernel) rfl)
theorem ml_L_73 : Cond.methodLink R_law 73 yX12_powers ∈ AW := (aw_m6 206 (by decide +kernel) rfl)
set_option maxHeartbeats 4000000 in
set_option maxRecDepth 100000 in
theorem lc_13 {p : Program} {l : Launch} {e : Env} {s : State} {m : MethodId} {below : List Frame} {meth : Method} {c : Code} {H : Heap} {locs : List Loc} {cells slots : Nat} {Q : State → Prop} {g : zG} {h : HF} {ls : Array Slot} {b L : Nat} {xs : Nat → Int32} {F : Nat} {Inv : HF → Prop} (hS : PS_powers F Inv) (lx : Lx p s m meth c b L xs g) (hcs : cells ≤ room_1.cells ∧ slots ≤ room_1.slots) {x : Int} (hx : 0 ≤ x ∧ x + 6 ≤ (L : Int)) (hI : Inv h) (hp : Hp g s.heap.size s h H locs) (hl : lv_has ls 4 [(0, .ref b), (1, .ref (s.heap.size + 0)), (2, .ref (s.heap.size + 181)), (3, .int (ii x))]) (kk : ∀ (h : HF) (H : Heap) (locs : List Loc), Inv h → Hp g s.heap.size s h H locs → W p l e room_1 s m #[Value.ref b] below meth c H locs cells slots Q (F0 m 1555 ls [])) : W p l e room_1 s m #[Value.ref b] below meth c H locs cells slots Q (F0 m 677 ls []) := by
  have cx := lx.1
  obtain ⟨s1, e1⟩ : ∃ z, z = (xs (x + 1).toNat).toInt := ⟨_, rfl⟩
  have rs1 : rng s1 := by rw [e1]; exact rng_ti _
  obtain ⟨s2, e2⟩ : ∃ z, z = (xs (x + 2).toNat).toInt := ⟨_, rfl⟩
  have rs2 : rng s2 := by rw [e2]; exact rng_ti _
  obtain ⟨s3, e3⟩ : ∃ z, z = (xs (x + 3).toNat).toInt := ⟨_, rfl⟩
  have rs3 : rng s3 := by rw [e3]; exact rng_ti _
  obtain ⟨r, h1, h2, f1, f2, hI2⟩ := hS h s1 s2 s3 hI rs1 rs2 rs3
  refine lv_aload_n cx.1 cx.2.1 dL_677 rfl (lv_at hl 1 rfl) ?_
  refine l_arg lx hp hl (j := 1) ⟨by omega, by omega⟩ dL_678 dL_679 dL_680 dL_681 dL_682 ?_
  rw [← e1]
  refine l_arg lx hp hl (j := 2) ⟨by omega, by omega⟩ dL_683 dL_684 dL_685 dL_686 dL_687 ?_
  rw [← e2]
  refine l_arg lx hp hl (j := 3) ⟨by omega, by omega⟩ dL_688 dL_689 dL_690 dL_691 dL_692 ?_
  rw [← e3]
  refine l_call (As := [.int (ii s1), .int (ii s2), .int (ii s3)]) (rest := []) cx hp (mX11_powers F l g s.heap.size h 0 s1 s2 s3 (by decide) rs1 rs2 rs3) 11 (by decide) (by decide) rfl vw_X11_powers ml_L_70 ⟨by decide, by decide⟩ hcs rfl hl.1 rfl (Nat.le_of_ble_eq_true rfl) dL_693 f1 (fun H locs rr hp => ?_)
  refine lv_aload_n cx.1 cx.2.1 dL_696 rfl (lv_at hl 2 rfl) ?_
  refine l_arg lx hp hl (j := 1) ⟨by omega, by omega⟩ dL_697 dL_698 dL_699 dL_700 dL_701 ?_
  rw [← e1]
  refine l_arg lx hp hl (j := 2) ⟨by omega, by omega⟩ dL_702 dL_703 dL_704 dL_705 dL_706 ?_
  rw [← e2]
  refine l_arg lx hp hl (j := 3) ⟨by omega, by omega⟩ dL_707 dL_708 dL_709 dL_710 dL_711 ?_
  rw [← e3]
  refine l_call (As := [.int (ii s1), .int (ii s2), .int (ii s3)]) (rest := [.int (ii r)]) cx hp (mX12_powers F l g s.heap.size h1 181 s1 s2 s3 (by decide) rs1 rs2 rs3) 12 (by decide) (by decide) rfl vw_X12_powers ml_L_73 ⟨by decide, by decide⟩ hcs rfl hl.1 rfl (Nat.le_of_ble_eq_true rfl) dL_712 f2 (fun H locs rr hp => ?_)
  refine lv_icmp_eq (tgt := 1555) cx.1 cx.2.1 dL_715 (by decide) (fun _ => ?_) (fun q => absurd rfl q)
  exact kk h2 _ _ hI2 hp
