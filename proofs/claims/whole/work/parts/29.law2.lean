theorem dL_720 : decode code 720 = .ok (.aload_n 1, 1) := by decide +kernel
theorem dL_721 : decode code 721 = .ok (.aload_n 0, 1) := by decide +kernel
theorem dL_722 : decode code 722 = .ok (.iload_n 3, 1) := by decide +kernel
theorem dL_723 : decode code 723 = .ok (.iconst 1, 1) := by decide +kernel
theorem dL_724 : decode code 724 = .ok (.iadd, 1) := by decide +kernel
theorem dL_725 : decode code 725 = .ok (.iaload, 1) := by decide +kernel
theorem dL_726 : decode code 726 = .ok (.aload_n 0, 1) := by decide +kernel
theorem dL_727 : decode code 727 = .ok (.iload_n 3, 1) := by decide +kernel
theorem dL_728 : decode code 728 = .ok (.iconst 2, 1) := by decide +kernel
theorem dL_729 : decode code 729 = .ok (.iadd, 1) := by decide +kernel
theorem dL_730 : decode code 730 = .ok (.iaload, 1) := by decide +kernel
theorem dL_731 : decode code 731 = .ok (.invokevirtual 74, 3) := by decide +kernel
theorem dL_734 : decode code 734 = .ok (.aload_n 2, 1) := by decide +kernel
theorem dL_735 : decode code 735 = .ok (.aload_n 0, 1) := by decide +kernel
theorem dL_736 : decode code 736 = .ok (.iload_n 3, 1) := by decide +kernel
theorem dL_737 : decode code 737 = .ok (.iconst 1, 1) := by decide +kernel
theorem dL_738 : decode code 738 = .ok (.iadd, 1) := by decide +kernel
theorem dL_739 : decode code 739 = .ok (.iaload, 1) := by decide +kernel
theorem dL_740 : decode code 740 = .ok (.aload_n 0, 1) := by decide +kernel
theorem dL_741 : decode code 741 = .ok (.iload_n 3, 1) := by decide +kernel
theorem dL_742 : decode code 742 = .ok (.iconst 2, 1) := by decide +kernel
theorem dL_743 : decode code 743 = .ok (.iadd, 1) := by decide +kernel
theorem dL_744 : decode code 744 = .ok (.iaload, 1) := by decide +kernel
theorem dL_745 : decode code 745 = .ok (.invokevirtual 77, 3) := by decide +kernel
theorem dL_748 : decode code 748 = .ok (.if_icmp .eq 807, 3) := by decide +kernel
theorem ml_L_74 : Cond.methodLink R_law 74 yX11_centre ∈ AW := (aw_m3 211 (by decide +kernel) rfl)
theorem ml_L_77 : Cond.methodLink R_law 77 yX12_centre ∈ AW := (aw_m6 210 (by decide +kernel) rfl)
set_option maxHeartbeats 4000000 in
set_option maxRecDepth 100000 in
theorem lc_14 {p : Program} {l : Launch} {e : Env} {s : State} {m : MethodId} {below : List Frame} {meth : Method} {c : Code} {H : Heap} {locs : List Loc} {cells slots : Nat} {Q : State → Prop} {g : zG} {h : HF} {ls : Array Slot} {b L : Nat} {xs : Nat → Int32} {F : Nat} {Inv : HF → Prop} (hS : PS_centre F Inv) (lx : Lx p s m meth c b L xs g) (hcs : cells ≤ room_1.cells ∧ slots ≤ room_1.slots) {x : Int} (hx : 0 ≤ x ∧ x + 6 ≤ (L : Int)) (hI : Inv h) (hp : Hp g s.heap.size s h H locs) (hl : lv_has ls 4 [(0, .ref b), (1, .ref (s.heap.size + 0)), (2, .ref (s.heap.size + 181)), (3, .int (ii x))]) (kk : ∀ (h : HF) (H : Heap) (locs : List Loc), Inv h → Hp g s.heap.size s h H locs → W p l e room_1 s m #[Value.ref b] below meth c H locs cells slots Q (F0 m 1555 ls [])) : W p l e room_1 s m #[Value.ref b] below meth c H locs cells slots Q (F0 m 720 ls []) := by
  have cx := lx.1
  obtain ⟨s1, e1⟩ : ∃ z, z = (xs (x + 1).toNat).toInt := ⟨_, rfl⟩
  have rs1 : rng s1 := by rw [e1]; exact rng_ti _
  obtain ⟨s2, e2⟩ : ∃ z, z = (xs (x + 2).toNat).toInt := ⟨_, rfl⟩
  have rs2 : rng s2 := by rw [e2]; exact rng_ti _
  obtain ⟨r, h1, h2, f1, f2, hI2⟩ := hS h s1 s2 hI rs1 rs2
  refine lv_aload_n cx.1 cx.2.1 dL_720 rfl (lv_at hl 1 rfl) ?_
  refine l_arg lx hp hl (j := 1) ⟨by omega, by omega⟩ dL_721 dL_722 dL_723 dL_724 dL_725 ?_
  rw [← e1]
  refine l_arg lx hp hl (j := 2) ⟨by omega, by omega⟩ dL_726 dL_727 dL_728 dL_729 dL_730 ?_
  rw [← e2]
  refine l_call (As := [.int (ii s1), .int (ii s2)]) (rest := []) cx hp (mX11_centre F l g s.heap.size h 0 s1 s2 (by decide) rs1 rs2) 11 (by decide) (by decide) rfl vw_X11_centre ml_L_74 ⟨by decide, by decide⟩ hcs rfl hl.1 rfl (Nat.le_of_ble_eq_true rfl) dL_731 f1 (fun H locs rr hp => ?_)
  refine lv_aload_n cx.1 cx.2.1 dL_734 rfl (lv_at hl 2 rfl) ?_
  refine l_arg lx hp hl (j := 1) ⟨by omega, by omega⟩ dL_735 dL_736 dL_737 dL_738 dL_739 ?_
  rw [← e1]
  refine l_arg lx hp hl (j := 2) ⟨by omega, by omega⟩ dL_740 dL_741 dL_742 dL_743 dL_744 ?_
  rw [← e2]
  refine l_call (As := [.int (ii s1), .int (ii s2)]) (rest := [.int (ii r)]) cx hp (mX12_centre F l g s.heap.size h1 181 s1 s2 (by decide) rs1 rs2) 12 (by decide) (by decide) rfl vw_X12_centre ml_L_77 ⟨by decide, by decide⟩ hcs rfl hl.1 rfl (Nat.le_of_ble_eq_true rfl) dL_745 f2 (fun H locs rr hp => ?_)
  refine lv_icmp_eq (tgt := 1555) cx.1 cx.2.1 dL_748 (by decide) (fun _ => ?_) (fun q => absurd rfl q)
  exact kk h2 _ _ hI2 hp
theorem dL_753 : decode code 753 = .ok (.aload_n 1, 1) := by decide +kernel
theorem dL_754 : decode code 754 = .ok (.aload_n 0, 1) := by decide +kernel
theorem dL_755 : decode code 755 = .ok (.iload_n 3, 1) := by decide +kernel
theorem dL_756 : decode code 756 = .ok (.iconst 1, 1) := by decide +kernel
theorem dL_757 : decode code 757 = .ok (.iadd, 1) := by decide +kernel
theorem dL_758 : decode code 758 = .ok (.iaload, 1) := by decide +kernel
theorem dL_759 : decode code 759 = .ok (.invokevirtual 78, 3) := by decide +kernel
theorem dL_762 : decode code 762 = .ok (.aload_n 2, 1) := by decide +kernel
theorem dL_763 : decode code 763 = .ok (.aload_n 0, 1) := by decide +kernel
theorem dL_764 : decode code 764 = .ok (.iload_n 3, 1) := by decide +kernel
theorem dL_765 : decode code 765 = .ok (.iconst 1, 1) := by decide +kernel
theorem dL_766 : decode code 766 = .ok (.iadd, 1) := by decide +kernel
theorem dL_767 : decode code 767 = .ok (.iaload, 1) := by decide +kernel
theorem dL_768 : decode code 768 = .ok (.invokevirtual 81, 3) := by decide +kernel
theorem dL_771 : decode code 771 = .ok (.if_icmp .eq 784, 3) := by decide +kernel
theorem ml_L_78 : Cond.methodLink R_law 78 yX11_laws ∈ AW := (aw_m3 216 (by decide +kernel) rfl)
theorem ml_L_81 : Cond.methodLink R_law 81 yX12_laws ∈ AW := (aw_m6 214 (by decide +kernel) rfl)
set_option maxHeartbeats 4000000 in
set_option maxRecDepth 100000 in
theorem lc_15 {p : Program} {l : Launch} {e : Env} {s : State} {m : MethodId} {below : List Frame} {meth : Method} {c : Code} {H : Heap} {locs : List Loc} {cells slots : Nat} {Q : State → Prop} {g : zG} {h : HF} {ls : Array Slot} {b L : Nat} {xs : Nat → Int32} {F : Nat} {Inv : HF → Prop} (hS : PS_laws F Inv) (lx : Lx p s m meth c b L xs g) (hcs : cells ≤ room_1.cells ∧ slots ≤ room_1.slots) {x : Int} (hx : 0 ≤ x ∧ x + 6 ≤ (L : Int)) (hI : Inv h) (hp : Hp g s.heap.size s h H locs) (hl : lv_has ls 4 [(0, .ref b), (1, .ref (s.heap.size + 0)), (2, .ref (s.heap.size + 181)), (3, .int (ii x))]) (kk : ∀ (h : HF) (H : Heap) (locs : List Loc), Inv h → Hp g s.heap.size s h H locs → W p l e room_1 s m #[Value.ref b] below meth c H locs cells slots Q (F0 m 1555 ls [])) : W p l e room_1 s m #[Value.ref b] below meth c H locs cells slots Q (F0 m 753 ls []) := by
  have cx := lx.1
  obtain ⟨s1, e1⟩ : ∃ z, z = (xs (x + 1).toNat).toInt := ⟨_, rfl⟩
  have rs1 : rng s1 := by rw [e1]; exact rng_ti _
  obtain ⟨r, h1, h2, f1, f2, hI2⟩ := hS h s1 hI rs1
  refine lv_aload_n cx.1 cx.2.1 dL_753 rfl (lv_at hl 1 rfl) ?_
  refine l_arg lx hp hl (j := 1) ⟨by omega, by omega⟩ dL_754 dL_755 dL_756 dL_757 dL_758 ?_
  rw [← e1]
  refine l_call (As := [.int (ii s1)]) (rest := []) cx hp (mX11_laws F l g s.heap.size h 0 s1 (by decide) rs1) 11 (by decide) (by decide) rfl vw_X11_laws ml_L_78 ⟨by decide, by decide⟩ hcs rfl hl.1 rfl (Nat.le_of_ble_eq_true rfl) dL_759 f1 (fun H locs rr hp => ?_)
  refine lv_aload_n cx.1 cx.2.1 dL_762 rfl (lv_at hl 2 rfl) ?_
  refine l_arg lx hp hl (j := 1) ⟨by omega, by omega⟩ dL_763 dL_764 dL_765 dL_766 dL_767 ?_
  rw [← e1]
  refine l_call (As := [.int (ii s1)]) (rest := [.int (ii r)]) cx hp (mX12_laws F l g s.heap.size h1 181 s1 (by decide) rs1) 12 (by decide) (by decide) rfl vw_X12_laws ml_L_81 ⟨by decide, by decide⟩ hcs rfl hl.1 rfl (Nat.le_of_ble_eq_true rfl) dL_768 f2 (fun H locs rr hp => ?_)
  refine lv_icmp_eq (tgt := 1555) cx.1 cx.2.1 dL_771 (by decide) (fun _ => ?_) (fun q => absurd rfl q)
  exact kk h2 _ _ hI2 hp
theorem dL_776 : decode code 776 = .ok (.aload_n 1, 1) := by decide +kernel
theorem dL_777 : decode code 777 = .ok (.invokevirtual 82, 3) := by decide +kernel
theorem dL_780 : decode code 780 = .ok (.aload_n 2, 1) := by decide +kernel
theorem dL_781 : decode code 781 = .ok (.invokevirtual 85, 3) := by decide +kernel
theorem dL_784 : decode code 784 = .ok (.if_icmp .eq 771, 3) := by decide +kernel
theorem ml_L_82 : Cond.methodLink R_law 82 yX11_fault ∈ AW := (aw_m4 42 (by decide +kernel) rfl)
theorem ml_L_85 : Cond.methodLink R_law 85 yX12_fault ∈ AW := (aw_m7 20 (by decide +kernel) rfl)
set_option maxHeartbeats 4000000 in
set_option maxRecDepth 100000 in
theorem lc_16 {p : Program} {l : Launch} {e : Env} {s : State} {m : MethodId} {below : List Frame} {meth : Method} {c : Code} {H : Heap} {locs : List Loc} {cells slots : Nat} {Q : State → Prop} {g : zG} {h : HF} {ls : Array Slot} {b L : Nat} {xs : Nat → Int32} {F : Nat} {Inv : HF → Prop} (hS : PS_fault F Inv) (lx : Lx p s m meth c b L xs g) (hcs : cells ≤ room_1.cells ∧ slots ≤ room_1.slots) {x : Int} (hx : 0 ≤ x ∧ x + 6 ≤ (L : Int)) (hI : Inv h) (hp : Hp g s.heap.size s h H locs) (hl : lv_has ls 4 [(0, .ref b), (1, .ref (s.heap.size + 0)), (2, .ref (s.heap.size + 181)), (3, .int (ii x))]) (kk : ∀ (h : HF) (H : Heap) (locs : List Loc), Inv h → Hp g s.heap.size s h H locs → W p l e room_1 s m #[Value.ref b] below meth c H locs cells slots Q (F0 m 1555 ls [])) : W p l e room_1 s m #[Value.ref b] below meth c H locs cells slots Q (F0 m 776 ls []) := by
  have cx := lx.1
  obtain ⟨r, h1, h2, f1, f2, hI2⟩ := hS h  hI 
  refine lv_aload_n cx.1 cx.2.1 dL_776 rfl (lv_at hl 1 rfl) ?_
  refine l_call (As := []) (rest := []) cx hp (mX11_fault F l g s.heap.size h 0  (by decide) ) 11 (by decide) (by decide) rfl vw_X11_fault ml_L_82 ⟨by decide, by decide⟩ hcs rfl hl.1 rfl (Nat.le_of_ble_eq_true rfl) dL_777 f1 (fun H locs rr hp => ?_)
  refine lv_aload_n cx.1 cx.2.1 dL_780 rfl (lv_at hl 2 rfl) ?_
  refine l_call (As := []) (rest := [.int (ii r)]) cx hp (mX12_fault F l g s.heap.size h1 181  (by decide) ) 12 (by decide) (by decide) rfl vw_X12_fault ml_L_85 ⟨by decide, by decide⟩ hcs rfl hl.1 rfl (Nat.le_of_ble_eq_true rfl) dL_781 f2 (fun H locs rr hp => ?_)
  refine lv_icmp_eq (tgt := 1555) cx.1 cx.2.1 dL_784 (by decide) (fun _ => ?_) (fun q => absurd rfl q)
  exact kk h2 _ _ hI2 hp
theorem dL_789 : decode code 789 = .ok (.aload_n 1, 1) := by decide +kernel
theorem dL_790 : decode code 790 = .ok (.aload_n 0, 1) := by decide +kernel
theorem dL_791 : decode code 791 = .ok (.iload_n 3, 1) := by decide +kernel
theorem dL_792 : decode code 792 = .ok (.iconst 1, 1) := by decide +kernel
theorem dL_793 : decode code 793 = .ok (.iadd, 1) := by decide +kernel
theorem dL_794 : decode code 794 = .ok (.iaload, 1) := by decide +kernel
theorem dL_795 : decode code 795 = .ok (.aload_n 0, 1) := by decide +kernel
theorem dL_796 : decode code 796 = .ok (.iload_n 3, 1) := by decide +kernel
theorem dL_797 : decode code 797 = .ok (.iconst 2, 1) := by decide +kernel
theorem dL_798 : decode code 798 = .ok (.iadd, 1) := by decide +kernel
theorem dL_799 : decode code 799 = .ok (.iaload, 1) := by decide +kernel
theorem dL_800 : decode code 800 = .ok (.invokevirtual 86, 3) := by decide +kernel
theorem dL_803 : decode code 803 = .ok (.aload_n 2, 1) := by decide +kernel
theorem dL_804 : decode code 804 = .ok (.aload_n 0, 1) := by decide +kernel
theorem dL_805 : decode code 805 = .ok (.iload_n 3, 1) := by decide +kernel
theorem dL_806 : decode code 806 = .ok (.iconst 1, 1) := by decide +kernel
theorem dL_807 : decode code 807 = .ok (.iadd, 1) := by decide +kernel
theorem dL_808 : decode code 808 = .ok (.iaload, 1) := by decide +kernel
theorem dL_809 : decode code 809 = .ok (.aload_n 0, 1) := by decide +kernel
theorem dL_810 : decode code 810 = .ok (.iload_n 3, 1) := by decide +kernel
theorem dL_811 : decode code 811 = .ok (.iconst 2, 1) := by decide +kernel
theorem dL_812 : decode code 812 = .ok (.iadd, 1) := by decide +kernel
theorem dL_813 : decode code 813 = .ok (.iaload, 1) := by decide +kernel
theorem dL_814 : decode code 814 = .ok (.invokevirtual 89, 3) := by decide +kernel
theorem dL_817 : decode code 817 = .ok (.if_icmp .eq 738, 3) := by decide +kernel
theorem ml_L_86 : Cond.methodLink R_law 86 yX11_holds ∈ AW := (aw_m4 46 (by decide +kernel) rfl)
theorem ml_L_89 : Cond.methodLink R_law 89 yX12_holds ∈ AW := (aw_m7 24 (by decide +kernel) rfl)
set_option maxHeartbeats 4000000 in
set_option maxRecDepth 100000 in
theorem lc_17 {p : Program} {l : Launch} {e : Env} {s : State} {m : MethodId} {below : List Frame} {meth : Method} {c : Code} {H : Heap} {locs : List Loc} {cells slots : Nat} {Q : State → Prop} {g : zG} {h : HF} {ls : Array Slot} {b L : Nat} {xs : Nat → Int32} {F : Nat} {Inv : HF → Prop} (hS : PS_holds F Inv) (lx : Lx p s m meth c b L xs g) (hcs : cells ≤ room_1.cells ∧ slots ≤ room_1.slots) {x : Int} (hx : 0 ≤ x ∧ x + 6 ≤ (L : Int)) (hI : Inv h) (hp : Hp g s.heap.size s h H locs) (hl : lv_has ls 4 [(0, .ref b), (1, .ref (s.heap.size + 0)), (2, .ref (s.heap.size + 181)), (3, .int (ii x))]) (kk : ∀ (h : HF) (H : Heap) (locs : List Loc), Inv h → Hp g s.heap.size s h H locs → W p l e room_1 s m #[Value.ref b] below meth c H locs cells slots Q (F0 m 1555 ls [])) : W p l e room_1 s m #[Value.ref b] below meth c H locs cells slots Q (F0 m 789 ls []) := by
  have cx := lx.1
  obtain ⟨s1, e1⟩ : ∃ z, z = (xs (x + 1).toNat).toInt := ⟨_, rfl⟩
  have rs1 : rng s1 := by rw [e1]; exact rng_ti _
  obtain ⟨s2, e2⟩ : ∃ z, z = (xs (x + 2).toNat).toInt := ⟨_, rfl⟩
  have rs2 : rng s2 := by rw [e2]; exact rng_ti _
  obtain ⟨r, h1, h2, f1, f2, hI2⟩ := hS h s1 s2 hI rs1 rs2
  refine lv_aload_n cx.1 cx.2.1 dL_789 rfl (lv_at hl 1 rfl) ?_
  refine l_arg lx hp hl (j := 1) ⟨by omega, by omega⟩ dL_790 dL_791 dL_792 dL_793 dL_794 ?_
  rw [← e1]
  refine l_arg lx hp hl (j := 2) ⟨by omega, by omega⟩ dL_795 dL_796 dL_797 dL_798 dL_799 ?_
  rw [← e2]
  refine l_call (As := [.int (ii s1), .int (ii s2)]) (rest := []) cx hp (mX11_holds F l g s.heap.size h 0 s1 s2 (by decide) rs1 rs2) 11 (by decide) (by decide) rfl vw_X11_holds ml_L_86 ⟨by decide, by decide⟩ hcs rfl hl.1 rfl (Nat.le_of_ble_eq_true rfl) dL_800 f1 (fun H locs rr hp => ?_)
  refine lv_aload_n cx.1 cx.2.1 dL_803 rfl (lv_at hl 2 rfl) ?_
  refine l_arg lx hp hl (j := 1) ⟨by omega, by omega⟩ dL_804 dL_805 dL_806 dL_807 dL_808 ?_
  rw [← e1]
  refine l_arg lx hp hl (j := 2) ⟨by omega, by omega⟩ dL_809 dL_810 dL_811 dL_812 dL_813 ?_
  rw [← e2]
  refine l_call (As := [.int (ii s1), .int (ii s2)]) (rest := [.int (ii r)]) cx hp (mX12_holds F l g s.heap.size h1 181 s1 s2 (by decide) rs1 rs2) 12 (by decide) (by decide) rfl vw_X12_holds ml_L_89 ⟨by decide, by decide⟩ hcs rfl hl.1 rfl (Nat.le_of_ble_eq_true rfl) dL_814 f2 (fun H locs rr hp => ?_)
  refine lv_icmp_eq (tgt := 1555) cx.1 cx.2.1 dL_817 (by decide) (fun _ => ?_) (fun q => absurd rfl q)
  exact kk h2 _ _ hI2 hp
theorem dL_822 : decode code 822 = .ok (.aload_n 1, 1) := by decide +kernel
theorem dL_823 : decode code 823 = .ok (.aload_n 0, 1) := by decide +kernel
theorem dL_824 : decode code 824 = .ok (.iload_n 3, 1) := by decide +kernel
theorem dL_825 : decode code 825 = .ok (.iconst 1, 1) := by decide +kernel
theorem dL_826 : decode code 826 = .ok (.iadd, 1) := by decide +kernel
theorem dL_827 : decode code 827 = .ok (.iaload, 1) := by decide +kernel
theorem dL_828 : decode code 828 = .ok (.aload_n 0, 1) := by decide +kernel
theorem dL_829 : decode code 829 = .ok (.iload_n 3, 1) := by decide +kernel
theorem dL_830 : decode code 830 = .ok (.iconst 2, 1) := by decide +kernel
theorem dL_831 : decode code 831 = .ok (.iadd, 1) := by decide +kernel
theorem dL_832 : decode code 832 = .ok (.iaload, 1) := by decide +kernel
theorem dL_833 : decode code 833 = .ok (.aload_n 0, 1) := by decide +kernel
theorem dL_834 : decode code 834 = .ok (.iload_n 3, 1) := by decide +kernel
theorem dL_835 : decode code 835 = .ok (.iconst 3, 1) := by decide +kernel
theorem dL_836 : decode code 836 = .ok (.iadd, 1) := by decide +kernel
theorem dL_837 : decode code 837 = .ok (.iaload, 1) := by decide +kernel
theorem dL_838 : decode code 838 = .ok (.invokevirtual 90, 3) := by decide +kernel
theorem dL_841 : decode code 841 = .ok (.aload_n 2, 1) := by decide +kernel
theorem dL_842 : decode code 842 = .ok (.aload_n 0, 1) := by decide +kernel
theorem dL_843 : decode code 843 = .ok (.iload_n 3, 1) := by decide +kernel
theorem dL_844 : decode code 844 = .ok (.iconst 1, 1) := by decide +kernel
theorem dL_845 : decode code 845 = .ok (.iadd, 1) := by decide +kernel
theorem dL_846 : decode code 846 = .ok (.iaload, 1) := by decide +kernel
theorem dL_847 : decode code 847 = .ok (.aload_n 0, 1) := by decide +kernel
theorem dL_848 : decode code 848 = .ok (.iload_n 3, 1) := by decide +kernel
theorem dL_849 : decode code 849 = .ok (.iconst 2, 1) := by decide +kernel
theorem dL_850 : decode code 850 = .ok (.iadd, 1) := by decide +kernel
theorem dL_851 : decode code 851 = .ok (.iaload, 1) := by decide +kernel
theorem dL_852 : decode code 852 = .ok (.aload_n 0, 1) := by decide +kernel
theorem dL_853 : decode code 853 = .ok (.iload_n 3, 1) := by decide +kernel
theorem dL_854 : decode code 854 = .ok (.iconst 3, 1) := by decide +kernel
theorem dL_855 : decode code 855 = .ok (.iadd, 1) := by decide +kernel
theorem dL_856 : decode code 856 = .ok (.iaload, 1) := by decide +kernel
theorem dL_857 : decode code 857 = .ok (.invokevirtual 93, 3) := by decide +kernel
theorem dL_860 : decode code 860 = .ok (.if_icmp .eq 695, 3) := by decide +kernel
theorem ml_L_90 : Cond.methodLink R_law 90 yX11_fails ∈ AW := (aw_m4 81 (by decide +kernel) rfl)
theorem ml_L_93 : Cond.methodLink R_law 93 yX12_fails ∈ AW := (aw_m7 60 (by decide +kernel) rfl)
set_option maxHeartbeats 4000000 in
set_option maxRecDepth 100000 in
theorem lc_18 {p : Program} {l : Launch} {e : Env} {s : State} {m : MethodId} {below : List Frame} {meth : Method} {c : Code} {H : Heap} {locs : List Loc} {cells slots : Nat} {Q : State → Prop} {g : zG} {h : HF} {ls : Array Slot} {b L : Nat} {xs : Nat → Int32} {F : Nat} {Inv : HF → Prop} (hS : PS_fails F Inv) (lx : Lx p s m meth c b L xs g) (hcs : cells ≤ room_1.cells ∧ slots ≤ room_1.slots) {x : Int} (hx : 0 ≤ x ∧ x + 6 ≤ (L : Int)) (hI : Inv h) (hp : Hp g s.heap.size s h H locs) (hl : lv_has ls 4 [(0, .ref b), (1, .ref (s.heap.size + 0)), (2, .ref (s.heap.size + 181)), (3, .int (ii x))]) (kk : ∀ (h : HF) (H : Heap) (locs : List Loc), Inv h → Hp g s.heap.size s h H locs → W p l e room_1 s m #[Value.ref b] below meth c H locs cells slots Q (F0 m 1555 ls [])) : W p l e room_1 s m #[Value.ref b] below meth c H locs cells slots Q (F0 m 822 ls []) := by
  have cx := lx.1
  obtain ⟨s1, e1⟩ : ∃ z, z = (xs (x + 1).toNat).toInt := ⟨_, rfl⟩
  have rs1 : rng s1 := by rw [e1]; exact rng_ti _
  obtain ⟨s2, e2⟩ : ∃ z, z = (xs (x + 2).toNat).toInt := ⟨_, rfl⟩
  have rs2 : rng s2 := by rw [e2]; exact rng_ti _
  obtain ⟨s3, e3⟩ : ∃ z, z = (xs (x + 3).toNat).toInt := ⟨_, rfl⟩
  have rs3 : rng s3 := by rw [e3]; exact rng_ti _
  obtain ⟨r, h1, h2, f1, f2, hI2⟩ := hS h s1 s2 s3 hI rs1 rs2 rs3
  refine lv_aload_n cx.1 cx.2.1 dL_822 rfl (lv_at hl 1 rfl) ?_
  refine l_arg lx hp hl (j := 1) ⟨by omega, by omega⟩ dL_823 dL_824 dL_825 dL_826 dL_827 ?_
  rw [← e1]
  refine l_arg lx hp hl (j := 2) ⟨by omega, by omega⟩ dL_828 dL_829 dL_830 dL_831 dL_832 ?_
  rw [← e2]
  refine l_arg lx hp hl (j := 3) ⟨by omega, by omega⟩ dL_833 dL_834 dL_835 dL_836 dL_837 ?_
  rw [← e3]
  refine l_call (As := [.int (ii s1), .int (ii s2), .int (ii s3)]) (rest := []) cx hp (mX11_fails F l g s.heap.size h 0 s1 s2 s3 (by decide) rs1 rs2 rs3) 11 (by decide) (by decide) rfl vw_X11_fails ml_L_90 ⟨by decide, by decide⟩ hcs rfl hl.1 rfl (Nat.le_of_ble_eq_true rfl) dL_838 f1 (fun H locs rr hp => ?_)
  refine lv_aload_n cx.1 cx.2.1 dL_841 rfl (lv_at hl 2 rfl) ?_
  refine l_arg lx hp hl (j := 1) ⟨by omega, by omega⟩ dL_842 dL_843 dL_844 dL_845 dL_846 ?_
  rw [← e1]
  refine l_arg lx hp hl (j := 2) ⟨by omega, by omega⟩ dL_847 dL_848 dL_849 dL_850 dL_851 ?_
  rw [← e2]
  refine l_arg lx hp hl (j := 3) ⟨by omega, by omega⟩ dL_852 dL_853 dL_854 dL_855 dL_856 ?_
  rw [← e3]
  refine l_call (As := [.int (ii s1), .int (ii s2), .int (ii s3)]) (rest := [.int (ii r)]) cx hp (mX12_fails F l g s.heap.size h1 181 s1 s2 s3 (by decide) rs1 rs2 rs3) 12 (by decide) (by decide) rfl vw_X12_fails ml_L_93 ⟨by decide, by decide⟩ hcs rfl hl.1 rfl (Nat.le_of_ble_eq_true rfl) dL_857 f2 (fun H locs rr hp => ?_)
  refine lv_icmp_eq (tgt := 1555) cx.1 cx.2.1 dL_860 (by decide) (fun _ => ?_) (fun q => absurd rfl q)
  exact kk h2 _ _ hI2 hp
theorem dL_865 : decode code 865 = .ok (.aload_n 1, 1) := by decide +kernel
theorem dL_866 : decode code 866 = .ok (.aload_n 0, 1) := by decide +kernel
theorem dL_867 : decode code 867 = .ok (.iload_n 3, 1) := by decide +kernel
theorem dL_868 : decode code 868 = .ok (.iconst 1, 1) := by decide +kernel
theorem dL_869 : decode code 869 = .ok (.iadd, 1) := by decide +kernel
theorem dL_870 : decode code 870 = .ok (.iaload, 1) := by decide +kernel
theorem dL_871 : decode code 871 = .ok (.aload_n 0, 1) := by decide +kernel
theorem dL_872 : decode code 872 = .ok (.iload_n 3, 1) := by decide +kernel
theorem dL_873 : decode code 873 = .ok (.iconst 2, 1) := by decide +kernel
theorem dL_874 : decode code 874 = .ok (.iadd, 1) := by decide +kernel
theorem dL_875 : decode code 875 = .ok (.iaload, 1) := by decide +kernel
theorem dL_876 : decode code 876 = .ok (.aload_n 0, 1) := by decide +kernel
theorem dL_877 : decode code 877 = .ok (.iload_n 3, 1) := by decide +kernel
theorem dL_878 : decode code 878 = .ok (.iconst 3, 1) := by decide +kernel
theorem dL_879 : decode code 879 = .ok (.iadd, 1) := by decide +kernel
theorem dL_880 : decode code 880 = .ok (.iaload, 1) := by decide +kernel
theorem dL_881 : decode code 881 = .ok (.invokevirtual 94, 3) := by decide +kernel
theorem dL_884 : decode code 884 = .ok (.aload_n 2, 1) := by decide +kernel
theorem dL_885 : decode code 885 = .ok (.aload_n 0, 1) := by decide +kernel
theorem dL_886 : decode code 886 = .ok (.iload_n 3, 1) := by decide +kernel
theorem dL_887 : decode code 887 = .ok (.iconst 1, 1) := by decide +kernel
theorem dL_888 : decode code 888 = .ok (.iadd, 1) := by decide +kernel
theorem dL_889 : decode code 889 = .ok (.iaload, 1) := by decide +kernel
theorem dL_890 : decode code 890 = .ok (.aload_n 0, 1) := by decide +kernel
theorem dL_891 : decode code 891 = .ok (.iload_n 3, 1) := by decide +kernel
theorem dL_892 : decode code 892 = .ok (.iconst 2, 1) := by decide +kernel
theorem dL_893 : decode code 893 = .ok (.iadd, 1) := by decide +kernel
theorem dL_894 : decode code 894 = .ok (.iaload, 1) := by decide +kernel
theorem dL_895 : decode code 895 = .ok (.aload_n 0, 1) := by decide +kernel
theorem dL_896 : decode code 896 = .ok (.iload_n 3, 1) := by decide +kernel
theorem dL_897 : decode code 897 = .ok (.iconst 3, 1) := by decide +kernel
theorem dL_898 : decode code 898 = .ok (.iadd, 1) := by decide +kernel
theorem dL_899 : decode code 899 = .ok (.iaload, 1) := by decide +kernel
theorem dL_900 : decode code 900 = .ok (.invokevirtual 97, 3) := by decide +kernel
theorem dL_903 : decode code 903 = .ok (.if_icmp .eq 652, 3) := by decide +kernel
theorem ml_L_94 : Cond.methodLink R_law 94 yX11_witness ∈ AW := (aw_m4 90 (by decide +kernel) rfl)
theorem ml_L_97 : Cond.methodLink R_law 97 yX12_witness ∈ AW := (aw_m7 64 (by decide +kernel) rfl)
set_option maxHeartbeats 4000000 in
set_option maxRecDepth 100000 in
theorem lc_19 {p : Program} {l : Launch} {e : Env} {s : State} {m : MethodId} {below : List Frame} {meth : Method} {c : Code} {H : Heap} {locs : List Loc} {cells slots : Nat} {Q : State → Prop} {g : zG} {h : HF} {ls : Array Slot} {b L : Nat} {xs : Nat → Int32} {F : Nat} {Inv : HF → Prop} (hS : PS_witness F Inv) (lx : Lx p s m meth c b L xs g) (hcs : cells ≤ room_1.cells ∧ slots ≤ room_1.slots) {x : Int} (hx : 0 ≤ x ∧ x + 6 ≤ (L : Int)) (hI : Inv h) (hp : Hp g s.heap.size s h H locs) (hl : lv_has ls 4 [(0, .ref b), (1, .ref (s.heap.size + 0)), (2, .ref (s.heap.size + 181)), (3, .int (ii x))]) (kk : ∀ (h : HF) (H : Heap) (locs : List Loc), Inv h → Hp g s.heap.size s h H locs → W p l e room_1 s m #[Value.ref b] below meth c H locs cells slots Q (F0 m 1555 ls [])) : W p l e room_1 s m #[Value.ref b] below meth c H locs cells slots Q (F0 m 865 ls []) := by
  have cx := lx.1
  obtain ⟨s1, e1⟩ : ∃ z, z = (xs (x + 1).toNat).toInt := ⟨_, rfl⟩
  have rs1 : rng s1 := by rw [e1]; exact rng_ti _
  obtain ⟨s2, e2⟩ : ∃ z, z = (xs (x + 2).toNat).toInt := ⟨_, rfl⟩
  have rs2 : rng s2 := by rw [e2]; exact rng_ti _
  obtain ⟨s3, e3⟩ : ∃ z, z = (xs (x + 3).toNat).toInt := ⟨_, rfl⟩
  have rs3 : rng s3 := by rw [e3]; exact rng_ti _
  obtain ⟨r, h1, h2, f1, f2, hI2⟩ := hS h s1 s2 s3 hI rs1 rs2 rs3
  refine lv_aload_n cx.1 cx.2.1 dL_865 rfl (lv_at hl 1 rfl) ?_
  refine l_arg lx hp hl (j := 1) ⟨by omega, by omega⟩ dL_866 dL_867 dL_868 dL_869 dL_870 ?_
  rw [← e1]
  refine l_arg lx hp hl (j := 2) ⟨by omega, by omega⟩ dL_871 dL_872 dL_873 dL_874 dL_875 ?_
  rw [← e2]
  refine l_arg lx hp hl (j := 3) ⟨by omega, by omega⟩ dL_876 dL_877 dL_878 dL_879 dL_880 ?_
  rw [← e3]
  refine l_call (As := [.int (ii s1), .int (ii s2), .int (ii s3)]) (rest := []) cx hp (mX11_witness F l g s.heap.size h 0 s1 s2 s3 (by decide) rs1 rs2 rs3) 11 (by decide) (by decide) rfl vw_X11_witness ml_L_94 ⟨by decide, by decide⟩ hcs rfl hl.1 rfl (Nat.le_of_ble_eq_true rfl) dL_881 f1 (fun H locs rr hp => ?_)
  refine lv_aload_n cx.1 cx.2.1 dL_884 rfl (lv_at hl 2 rfl) ?_
  refine l_arg lx hp hl (j := 1) ⟨by omega, by omega⟩ dL_885 dL_886 dL_887 dL_888 dL_889 ?_
  rw [← e1]
  refine l_arg lx hp hl (j := 2) ⟨by omega, by omega⟩ dL_890 dL_891 dL_892 dL_893 dL_894 ?_
  rw [← e2]
  refine l_arg lx hp hl (j := 3) ⟨by omega, by omega⟩ dL_895 dL_896 dL_897 dL_898 dL_899 ?_
  rw [← e3]
  refine l_call (As := [.int (ii s1), .int (ii s2), .int (ii s3)]) (rest := [.int (ii r)]) cx hp (mX12_witness F l g s.heap.size h1 181 s1 s2 s3 (by decide) rs1 rs2 rs3) 12 (by decide) (by decide) rfl vw_X12_witness ml_L_97 ⟨by decide, by decide⟩ hcs rfl hl.1 rfl (Nat.le_of_ble_eq_true rfl) dL_900 f2 (fun H locs rr hp => ?_)
  refine lv_icmp_eq (tgt := 1555) cx.1 cx.2.1 dL_903 (by decide) (fun _ => ?_) (fun q => absurd rfl q)
  exact kk h2 _ _ hI2 hp
theorem dL_908 : decode code 908 = .ok (.aload_n 1, 1) := by decide +kernel
theorem dL_909 : decode code 909 = .ok (.aload_n 0, 1) := by decide +kernel
theorem dL_910 : decode code 910 = .ok (.iload_n 3, 1) := by decide +kernel
theorem dL_911 : decode code 911 = .ok (.iconst 1, 1) := by decide +kernel
theorem dL_912 : decode code 912 = .ok (.iadd, 1) := by decide +kernel
theorem dL_913 : decode code 913 = .ok (.iaload, 1) := by decide +kernel
theorem dL_914 : decode code 914 = .ok (.aload_n 0, 1) := by decide +kernel
theorem dL_915 : decode code 915 = .ok (.iload_n 3, 1) := by decide +kernel
theorem dL_916 : decode code 916 = .ok (.iconst 2, 1) := by decide +kernel
theorem dL_917 : decode code 917 = .ok (.iadd, 1) := by decide +kernel
theorem dL_918 : decode code 918 = .ok (.iaload, 1) := by decide +kernel
theorem dL_919 : decode code 919 = .ok (.invokevirtual 98, 3) := by decide +kernel
theorem dL_922 : decode code 922 = .ok (.aload_n 2, 1) := by decide +kernel
theorem dL_923 : decode code 923 = .ok (.aload_n 0, 1) := by decide +kernel
theorem dL_924 : decode code 924 = .ok (.iload_n 3, 1) := by decide +kernel
theorem dL_925 : decode code 925 = .ok (.iconst 1, 1) := by decide +kernel
theorem dL_926 : decode code 926 = .ok (.iadd, 1) := by decide +kernel
theorem dL_927 : decode code 927 = .ok (.iaload, 1) := by decide +kernel
theorem dL_928 : decode code 928 = .ok (.aload_n 0, 1) := by decide +kernel
theorem dL_929 : decode code 929 = .ok (.iload_n 3, 1) := by decide +kernel
theorem dL_930 : decode code 930 = .ok (.iconst 2, 1) := by decide +kernel
theorem dL_931 : decode code 931 = .ok (.iadd, 1) := by decide +kernel
theorem dL_932 : decode code 932 = .ok (.iaload, 1) := by decide +kernel
theorem dL_933 : decode code 933 = .ok (.invokevirtual 101, 3) := by decide +kernel
theorem dL_936 : decode code 936 = .ok (.if_icmp .eq 619, 3) := by decide +kernel
theorem ml_L_98 : Cond.methodLink R_law 98 yX11_span ∈ AW := (aw_m4 94 (by decide +kernel) rfl)
theorem ml_L_101 : Cond.methodLink R_law 101 yX12_span ∈ AW := (aw_m7 68 (by decide +kernel) rfl)
set_option maxHeartbeats 4000000 in
set_option maxRecDepth 100000 in
theorem lc_20 {p : Program} {l : Launch} {e : Env} {s : State} {m : MethodId} {below : List Frame} {meth : Method} {c : Code} {H : Heap} {locs : List Loc} {cells slots : Nat} {Q : State → Prop} {g : zG} {h : HF} {ls : Array Slot} {b L : Nat} {xs : Nat → Int32} {F : Nat} {Inv : HF → Prop} (hS : PS_span F Inv) (lx : Lx p s m meth c b L xs g) (hcs : cells ≤ room_1.cells ∧ slots ≤ room_1.slots) {x : Int} (hx : 0 ≤ x ∧ x + 6 ≤ (L : Int)) (hI : Inv h) (hp : Hp g s.heap.size s h H locs) (hl : lv_has ls 4 [(0, .ref b), (1, .ref (s.heap.size + 0)), (2, .ref (s.heap.size + 181)), (3, .int (ii x))]) (kk : ∀ (h : HF) (H : Heap) (locs : List Loc), Inv h → Hp g s.heap.size s h H locs → W p l e room_1 s m #[Value.ref b] below meth c H locs cells slots Q (F0 m 1555 ls [])) : W p l e room_1 s m #[Value.ref b] below meth c H locs cells slots Q (F0 m 908 ls []) := by
  have cx := lx.1
  obtain ⟨s1, e1⟩ : ∃ z, z = (xs (x + 1).toNat).toInt := ⟨_, rfl⟩
  have rs1 : rng s1 := by rw [e1]; exact rng_ti _
  obtain ⟨s2, e2⟩ : ∃ z, z = (xs (x + 2).toNat).toInt := ⟨_, rfl⟩
  have rs2 : rng s2 := by rw [e2]; exact rng_ti _
  obtain ⟨r, h1, h2, f1, f2, hI2⟩ := hS h s1 s2 hI rs1 rs2
  refine lv_aload_n cx.1 cx.2.1 dL_908 rfl (lv_at hl 1 rfl) ?_
  refine l_arg lx hp hl (j := 1) ⟨by omega, by omega⟩ dL_909 dL_910 dL_911 dL_912 dL_913 ?_
  rw [← e1]
  refine l_arg lx hp hl (j := 2) ⟨by omega, by omega⟩ dL_914 dL_915 dL_916 dL_917 dL_918 ?_
  rw [← e2]
  refine l_call (As := [.int (ii s1), .int (ii s2)]) (rest := []) cx hp (mX11_span F l g s.heap.size h 0 s1 s2 (by decide) rs1 rs2) 11 (by decide) (by decide) rfl vw_X11_span ml_L_98 ⟨by decide, by decide⟩ hcs rfl hl.1 rfl (Nat.le_of_ble_eq_true rfl) dL_919 f1 (fun H locs rr hp => ?_)
  refine lv_aload_n cx.1 cx.2.1 dL_922 rfl (lv_at hl 2 rfl) ?_
  refine l_arg lx hp hl (j := 1) ⟨by omega, by omega⟩ dL_923 dL_924 dL_925 dL_926 dL_927 ?_
  rw [← e1]
  refine l_arg lx hp hl (j := 2) ⟨by omega, by omega⟩ dL_928 dL_929 dL_930 dL_931 dL_932 ?_
  rw [← e2]
  refine l_call (As := [.int (ii s1), .int (ii s2)]) (rest := [.int (ii r)]) cx hp (mX12_span F l g s.heap.size h1 181 s1 s2 (by decide) rs1 rs2) 12 (by decide) (by decide) rfl vw_X12_span ml_L_101 ⟨by decide, by decide⟩ hcs rfl hl.1 rfl (Nat.le_of_ble_eq_true rfl) dL_933 f2 (fun H locs rr hp => ?_)
  refine lv_icmp_eq (tgt := 1555) cx.1 cx.2.1 dL_936 (by decide) (fun _ => ?_) (fun q => absurd rfl q)
  exact kk h2 _ _ hI2 hp
