theorem dL_941 : decode code 941 = .ok (.aload_n 1, 1) := by decide +kernel
theorem dL_942 : decode code 942 = .ok (.aload_n 0, 1) := by decide +kernel
theorem dL_943 : decode code 943 = .ok (.iload_n 3, 1) := by decide +kernel
theorem dL_944 : decode code 944 = .ok (.iconst 1, 1) := by decide +kernel
theorem dL_945 : decode code 945 = .ok (.iadd, 1) := by decide +kernel
theorem dL_946 : decode code 946 = .ok (.iaload, 1) := by decide +kernel
theorem dL_947 : decode code 947 = .ok (.aload_n 0, 1) := by decide +kernel
theorem dL_948 : decode code 948 = .ok (.iload_n 3, 1) := by decide +kernel
theorem dL_949 : decode code 949 = .ok (.iconst 2, 1) := by decide +kernel
theorem dL_950 : decode code 950 = .ok (.iadd, 1) := by decide +kernel
theorem dL_951 : decode code 951 = .ok (.iaload, 1) := by decide +kernel
theorem dL_952 : decode code 952 = .ok (.invokevirtual 102, 3) := by decide +kernel
theorem dL_955 : decode code 955 = .ok (.aload_n 2, 1) := by decide +kernel
theorem dL_956 : decode code 956 = .ok (.aload_n 0, 1) := by decide +kernel
theorem dL_957 : decode code 957 = .ok (.iload_n 3, 1) := by decide +kernel
theorem dL_958 : decode code 958 = .ok (.iconst 1, 1) := by decide +kernel
theorem dL_959 : decode code 959 = .ok (.iadd, 1) := by decide +kernel
theorem dL_960 : decode code 960 = .ok (.iaload, 1) := by decide +kernel
theorem dL_961 : decode code 961 = .ok (.aload_n 0, 1) := by decide +kernel
theorem dL_962 : decode code 962 = .ok (.iload_n 3, 1) := by decide +kernel
theorem dL_963 : decode code 963 = .ok (.iconst 2, 1) := by decide +kernel
theorem dL_964 : decode code 964 = .ok (.iadd, 1) := by decide +kernel
theorem dL_965 : decode code 965 = .ok (.iaload, 1) := by decide +kernel
theorem dL_966 : decode code 966 = .ok (.invokevirtual 105, 3) := by decide +kernel
theorem dL_969 : decode code 969 = .ok (.if_icmp .eq 586, 3) := by decide +kernel
theorem ml_L_102 : Cond.methodLink R_law 102 yX11_part ∈ AW := (aw_m4 111 (by decide +kernel) rfl)
theorem ml_L_105 : Cond.methodLink R_law 105 yX12_part ∈ AW := (aw_m7 76 (by decide +kernel) rfl)
set_option maxHeartbeats 4000000 in
set_option maxRecDepth 100000 in
theorem lc_21 {p : Program} {l : Launch} {e : Env} {s : State} {m : MethodId} {below : List Frame} {meth : Method} {c : Code} {H : Heap} {locs : List Loc} {cells slots : Nat} {Q : State → Prop} {g : zG} {h : HF} {ls : Array Slot} {b L : Nat} {xs : Nat → Int32} {F : Nat} {Inv : HF → Prop} (hS : PS_part F Inv) (lx : Lx p s m meth c b L xs g) (hcs : cells ≤ room_1.cells ∧ slots ≤ room_1.slots) {x : Int} (hx : 0 ≤ x ∧ x + 6 ≤ (L : Int)) (hI : Inv h) (hp : Hp g s.heap.size s h H locs) (hl : lv_has ls 4 [(0, .ref b), (1, .ref (s.heap.size + 0)), (2, .ref (s.heap.size + 181)), (3, .int (ii x))]) (kk : ∀ (h : HF) (H : Heap) (locs : List Loc), Inv h → Hp g s.heap.size s h H locs → W p l e room_1 s m #[Value.ref b] below meth c H locs cells slots Q (F0 m 1555 ls [])) : W p l e room_1 s m #[Value.ref b] below meth c H locs cells slots Q (F0 m 941 ls []) := by
  have cx := lx.1
  obtain ⟨s1, e1⟩ : ∃ z, z = (xs (x + 1).toNat).toInt := ⟨_, rfl⟩
  have rs1 : rng s1 := by rw [e1]; exact rng_ti _
  obtain ⟨s2, e2⟩ : ∃ z, z = (xs (x + 2).toNat).toInt := ⟨_, rfl⟩
  have rs2 : rng s2 := by rw [e2]; exact rng_ti _
  obtain ⟨r, h1, h2, f1, f2, hI2⟩ := hS h s1 s2 hI rs1 rs2
  refine lv_aload_n cx.1 cx.2.1 dL_941 rfl (lv_at hl 1 rfl) ?_
  refine l_arg lx hp hl (j := 1) ⟨by omega, by omega⟩ dL_942 dL_943 dL_944 dL_945 dL_946 ?_
  rw [← e1]
  refine l_arg lx hp hl (j := 2) ⟨by omega, by omega⟩ dL_947 dL_948 dL_949 dL_950 dL_951 ?_
  rw [← e2]
  refine l_call (As := [.int (ii s1), .int (ii s2)]) (rest := []) cx hp (mX11_part F l g s.heap.size h 0 s1 s2 (by decide) rs1 rs2) 11 (by decide) (by decide) rfl vw_X11_part ml_L_102 ⟨by decide, by decide⟩ hcs rfl hl.1 rfl (Nat.le_of_ble_eq_true rfl) dL_952 f1 (fun H locs rr hp => ?_)
  refine lv_aload_n cx.1 cx.2.1 dL_955 rfl (lv_at hl 2 rfl) ?_
  refine l_arg lx hp hl (j := 1) ⟨by omega, by omega⟩ dL_956 dL_957 dL_958 dL_959 dL_960 ?_
  rw [← e1]
  refine l_arg lx hp hl (j := 2) ⟨by omega, by omega⟩ dL_961 dL_962 dL_963 dL_964 dL_965 ?_
  rw [← e2]
  refine l_call (As := [.int (ii s1), .int (ii s2)]) (rest := [.int (ii r)]) cx hp (mX12_part F l g s.heap.size h1 181 s1 s2 (by decide) rs1 rs2) 12 (by decide) (by decide) rfl vw_X12_part ml_L_105 ⟨by decide, by decide⟩ hcs rfl hl.1 rfl (Nat.le_of_ble_eq_true rfl) dL_966 f2 (fun H locs rr hp => ?_)
  refine lv_icmp_eq (tgt := 1555) cx.1 cx.2.1 dL_969 (by decide) (fun _ => ?_) (fun q => absurd rfl q)
  exact kk h2 _ _ hI2 hp
theorem dL_974 : decode code 974 = .ok (.aload_n 1, 1) := by decide +kernel
theorem dL_975 : decode code 975 = .ok (.aload_n 0, 1) := by decide +kernel
theorem dL_976 : decode code 976 = .ok (.iload_n 3, 1) := by decide +kernel
theorem dL_977 : decode code 977 = .ok (.iconst 1, 1) := by decide +kernel
theorem dL_978 : decode code 978 = .ok (.iadd, 1) := by decide +kernel
theorem dL_979 : decode code 979 = .ok (.iaload, 1) := by decide +kernel
theorem dL_980 : decode code 980 = .ok (.aload_n 0, 1) := by decide +kernel
theorem dL_981 : decode code 981 = .ok (.iload_n 3, 1) := by decide +kernel
theorem dL_982 : decode code 982 = .ok (.iconst 2, 1) := by decide +kernel
theorem dL_983 : decode code 983 = .ok (.iadd, 1) := by decide +kernel
theorem dL_984 : decode code 984 = .ok (.iaload, 1) := by decide +kernel
theorem dL_985 : decode code 985 = .ok (.aload_n 0, 1) := by decide +kernel
theorem dL_986 : decode code 986 = .ok (.iload_n 3, 1) := by decide +kernel
theorem dL_987 : decode code 987 = .ok (.iconst 3, 1) := by decide +kernel
theorem dL_988 : decode code 988 = .ok (.iadd, 1) := by decide +kernel
theorem dL_989 : decode code 989 = .ok (.iaload, 1) := by decide +kernel
theorem dL_990 : decode code 990 = .ok (.invokevirtual 106, 3) := by decide +kernel
theorem dL_993 : decode code 993 = .ok (.aload_n 2, 1) := by decide +kernel
theorem dL_994 : decode code 994 = .ok (.aload_n 0, 1) := by decide +kernel
theorem dL_995 : decode code 995 = .ok (.iload_n 3, 1) := by decide +kernel
theorem dL_996 : decode code 996 = .ok (.iconst 1, 1) := by decide +kernel
theorem dL_997 : decode code 997 = .ok (.iadd, 1) := by decide +kernel
theorem dL_998 : decode code 998 = .ok (.iaload, 1) := by decide +kernel
theorem dL_999 : decode code 999 = .ok (.aload_n 0, 1) := by decide +kernel
theorem dL_1000 : decode code 1000 = .ok (.iload_n 3, 1) := by decide +kernel
theorem dL_1001 : decode code 1001 = .ok (.iconst 2, 1) := by decide +kernel
theorem dL_1002 : decode code 1002 = .ok (.iadd, 1) := by decide +kernel
theorem dL_1003 : decode code 1003 = .ok (.iaload, 1) := by decide +kernel
theorem dL_1004 : decode code 1004 = .ok (.aload_n 0, 1) := by decide +kernel
theorem dL_1005 : decode code 1005 = .ok (.iload_n 3, 1) := by decide +kernel
theorem dL_1006 : decode code 1006 = .ok (.iconst 3, 1) := by decide +kernel
theorem dL_1007 : decode code 1007 = .ok (.iadd, 1) := by decide +kernel
theorem dL_1008 : decode code 1008 = .ok (.iaload, 1) := by decide +kernel
theorem dL_1009 : decode code 1009 = .ok (.invokevirtual 109, 3) := by decide +kernel
theorem dL_1012 : decode code 1012 = .ok (.if_icmp .eq 543, 3) := by decide +kernel
theorem ml_L_106 : Cond.methodLink R_law 106 yX11_sub ∈ AW := (aw_m4 123 (by decide +kernel) rfl)
theorem ml_L_109 : Cond.methodLink R_law 109 yX12_sub ∈ AW := (aw_m7 84 (by decide +kernel) rfl)
set_option maxHeartbeats 4000000 in
set_option maxRecDepth 100000 in
theorem lc_22 {p : Program} {l : Launch} {e : Env} {s : State} {m : MethodId} {below : List Frame} {meth : Method} {c : Code} {H : Heap} {locs : List Loc} {cells slots : Nat} {Q : State → Prop} {g : zG} {h : HF} {ls : Array Slot} {b L : Nat} {xs : Nat → Int32} {F : Nat} {Inv : HF → Prop} (hS : PS_sub F Inv) (lx : Lx p s m meth c b L xs g) (hcs : cells ≤ room_1.cells ∧ slots ≤ room_1.slots) {x : Int} (hx : 0 ≤ x ∧ x + 6 ≤ (L : Int)) (hI : Inv h) (hp : Hp g s.heap.size s h H locs) (hl : lv_has ls 4 [(0, .ref b), (1, .ref (s.heap.size + 0)), (2, .ref (s.heap.size + 181)), (3, .int (ii x))]) (kk : ∀ (h : HF) (H : Heap) (locs : List Loc), Inv h → Hp g s.heap.size s h H locs → W p l e room_1 s m #[Value.ref b] below meth c H locs cells slots Q (F0 m 1555 ls [])) : W p l e room_1 s m #[Value.ref b] below meth c H locs cells slots Q (F0 m 974 ls []) := by
  have cx := lx.1
  obtain ⟨s1, e1⟩ : ∃ z, z = (xs (x + 1).toNat).toInt := ⟨_, rfl⟩
  have rs1 : rng s1 := by rw [e1]; exact rng_ti _
  obtain ⟨s2, e2⟩ : ∃ z, z = (xs (x + 2).toNat).toInt := ⟨_, rfl⟩
  have rs2 : rng s2 := by rw [e2]; exact rng_ti _
  obtain ⟨s3, e3⟩ : ∃ z, z = (xs (x + 3).toNat).toInt := ⟨_, rfl⟩
  have rs3 : rng s3 := by rw [e3]; exact rng_ti _
  obtain ⟨r, h1, h2, f1, f2, hI2⟩ := hS h s1 s2 s3 hI rs1 rs2 rs3
  refine lv_aload_n cx.1 cx.2.1 dL_974 rfl (lv_at hl 1 rfl) ?_
  refine l_arg lx hp hl (j := 1) ⟨by omega, by omega⟩ dL_975 dL_976 dL_977 dL_978 dL_979 ?_
  rw [← e1]
  refine l_arg lx hp hl (j := 2) ⟨by omega, by omega⟩ dL_980 dL_981 dL_982 dL_983 dL_984 ?_
  rw [← e2]
  refine l_arg lx hp hl (j := 3) ⟨by omega, by omega⟩ dL_985 dL_986 dL_987 dL_988 dL_989 ?_
  rw [← e3]
  refine l_call (As := [.int (ii s1), .int (ii s2), .int (ii s3)]) (rest := []) cx hp (mX11_sub F l g s.heap.size h 0 s1 s2 s3 (by decide) rs1 rs2 rs3) 11 (by decide) (by decide) rfl vw_X11_sub ml_L_106 ⟨by decide, by decide⟩ hcs rfl hl.1 rfl (Nat.le_of_ble_eq_true rfl) dL_990 f1 (fun H locs rr hp => ?_)
  refine lv_aload_n cx.1 cx.2.1 dL_993 rfl (lv_at hl 2 rfl) ?_
  refine l_arg lx hp hl (j := 1) ⟨by omega, by omega⟩ dL_994 dL_995 dL_996 dL_997 dL_998 ?_
  rw [← e1]
  refine l_arg lx hp hl (j := 2) ⟨by omega, by omega⟩ dL_999 dL_1000 dL_1001 dL_1002 dL_1003 ?_
  rw [← e2]
  refine l_arg lx hp hl (j := 3) ⟨by omega, by omega⟩ dL_1004 dL_1005 dL_1006 dL_1007 dL_1008 ?_
  rw [← e3]
  refine l_call (As := [.int (ii s1), .int (ii s2), .int (ii s3)]) (rest := [.int (ii r)]) cx hp (mX12_sub F l g s.heap.size h1 181 s1 s2 s3 (by decide) rs1 rs2 rs3) 12 (by decide) (by decide) rfl vw_X12_sub ml_L_109 ⟨by decide, by decide⟩ hcs rfl hl.1 rfl (Nat.le_of_ble_eq_true rfl) dL_1009 f2 (fun H locs rr hp => ?_)
  refine lv_icmp_eq (tgt := 1555) cx.1 cx.2.1 dL_1012 (by decide) (fun _ => ?_) (fun q => absurd rfl q)
  exact kk h2 _ _ hI2 hp
theorem dL_1017 : decode code 1017 = .ok (.aload_n 1, 1) := by decide +kernel
theorem dL_1018 : decode code 1018 = .ok (.aload_n 0, 1) := by decide +kernel
theorem dL_1019 : decode code 1019 = .ok (.iload_n 3, 1) := by decide +kernel
theorem dL_1020 : decode code 1020 = .ok (.iconst 1, 1) := by decide +kernel
theorem dL_1021 : decode code 1021 = .ok (.iadd, 1) := by decide +kernel
theorem dL_1022 : decode code 1022 = .ok (.iaload, 1) := by decide +kernel
theorem dL_1023 : decode code 1023 = .ok (.aload_n 0, 1) := by decide +kernel
theorem dL_1024 : decode code 1024 = .ok (.iload_n 3, 1) := by decide +kernel
theorem dL_1025 : decode code 1025 = .ok (.iconst 2, 1) := by decide +kernel
theorem dL_1026 : decode code 1026 = .ok (.iadd, 1) := by decide +kernel
theorem dL_1027 : decode code 1027 = .ok (.iaload, 1) := by decide +kernel
theorem dL_1028 : decode code 1028 = .ok (.aload_n 0, 1) := by decide +kernel
theorem dL_1029 : decode code 1029 = .ok (.iload_n 3, 1) := by decide +kernel
theorem dL_1030 : decode code 1030 = .ok (.iconst 3, 1) := by decide +kernel
theorem dL_1031 : decode code 1031 = .ok (.iadd, 1) := by decide +kernel
theorem dL_1032 : decode code 1032 = .ok (.iaload, 1) := by decide +kernel
theorem dL_1033 : decode code 1033 = .ok (.invokevirtual 110, 3) := by decide +kernel
theorem dL_1036 : decode code 1036 = .ok (.aload_n 2, 1) := by decide +kernel
theorem dL_1037 : decode code 1037 = .ok (.aload_n 0, 1) := by decide +kernel
theorem dL_1038 : decode code 1038 = .ok (.iload_n 3, 1) := by decide +kernel
theorem dL_1039 : decode code 1039 = .ok (.iconst 1, 1) := by decide +kernel
theorem dL_1040 : decode code 1040 = .ok (.iadd, 1) := by decide +kernel
theorem dL_1041 : decode code 1041 = .ok (.iaload, 1) := by decide +kernel
theorem dL_1042 : decode code 1042 = .ok (.aload_n 0, 1) := by decide +kernel
theorem dL_1043 : decode code 1043 = .ok (.iload_n 3, 1) := by decide +kernel
theorem dL_1044 : decode code 1044 = .ok (.iconst 2, 1) := by decide +kernel
theorem dL_1045 : decode code 1045 = .ok (.iadd, 1) := by decide +kernel
theorem dL_1046 : decode code 1046 = .ok (.iaload, 1) := by decide +kernel
theorem dL_1047 : decode code 1047 = .ok (.aload_n 0, 1) := by decide +kernel
theorem dL_1048 : decode code 1048 = .ok (.iload_n 3, 1) := by decide +kernel
theorem dL_1049 : decode code 1049 = .ok (.iconst 3, 1) := by decide +kernel
theorem dL_1050 : decode code 1050 = .ok (.iadd, 1) := by decide +kernel
theorem dL_1051 : decode code 1051 = .ok (.iaload, 1) := by decide +kernel
theorem dL_1052 : decode code 1052 = .ok (.invokevirtual 113, 3) := by decide +kernel
theorem dL_1055 : decode code 1055 = .ok (.if_icmp .eq 500, 3) := by decide +kernel
theorem ml_L_110 : Cond.methodLink R_law 110 yX11_link ∈ AW := (aw_m4 141 (by decide +kernel) rfl)
theorem ml_L_113 : Cond.methodLink R_law 113 yX12_link ∈ AW := (aw_m7 128 (by decide +kernel) rfl)
set_option maxHeartbeats 4000000 in
set_option maxRecDepth 100000 in
theorem lc_23 {p : Program} {l : Launch} {e : Env} {s : State} {m : MethodId} {below : List Frame} {meth : Method} {c : Code} {H : Heap} {locs : List Loc} {cells slots : Nat} {Q : State → Prop} {g : zG} {h : HF} {ls : Array Slot} {b L : Nat} {xs : Nat → Int32} {F : Nat} {Inv : HF → Prop} (hS : PS_link F Inv) (lx : Lx p s m meth c b L xs g) (hcs : cells ≤ room_1.cells ∧ slots ≤ room_1.slots) {x : Int} (hx : 0 ≤ x ∧ x + 6 ≤ (L : Int)) (hI : Inv h) (hp : Hp g s.heap.size s h H locs) (hl : lv_has ls 4 [(0, .ref b), (1, .ref (s.heap.size + 0)), (2, .ref (s.heap.size + 181)), (3, .int (ii x))]) (kk : ∀ (h : HF) (H : Heap) (locs : List Loc), Inv h → Hp g s.heap.size s h H locs → W p l e room_1 s m #[Value.ref b] below meth c H locs cells slots Q (F0 m 1555 ls [])) : W p l e room_1 s m #[Value.ref b] below meth c H locs cells slots Q (F0 m 1017 ls []) := by
  have cx := lx.1
  obtain ⟨s1, e1⟩ : ∃ z, z = (xs (x + 1).toNat).toInt := ⟨_, rfl⟩
  have rs1 : rng s1 := by rw [e1]; exact rng_ti _
  obtain ⟨s2, e2⟩ : ∃ z, z = (xs (x + 2).toNat).toInt := ⟨_, rfl⟩
  have rs2 : rng s2 := by rw [e2]; exact rng_ti _
  obtain ⟨s3, e3⟩ : ∃ z, z = (xs (x + 3).toNat).toInt := ⟨_, rfl⟩
  have rs3 : rng s3 := by rw [e3]; exact rng_ti _
  obtain ⟨r, h1, h2, f1, f2, hI2⟩ := hS h s1 s2 s3 hI rs1 rs2 rs3
  refine lv_aload_n cx.1 cx.2.1 dL_1017 rfl (lv_at hl 1 rfl) ?_
  refine l_arg lx hp hl (j := 1) ⟨by omega, by omega⟩ dL_1018 dL_1019 dL_1020 dL_1021 dL_1022 ?_
  rw [← e1]
  refine l_arg lx hp hl (j := 2) ⟨by omega, by omega⟩ dL_1023 dL_1024 dL_1025 dL_1026 dL_1027 ?_
  rw [← e2]
  refine l_arg lx hp hl (j := 3) ⟨by omega, by omega⟩ dL_1028 dL_1029 dL_1030 dL_1031 dL_1032 ?_
  rw [← e3]
  refine l_call (As := [.int (ii s1), .int (ii s2), .int (ii s3)]) (rest := []) cx hp (mX11_link F l g s.heap.size h 0 s1 s2 s3 (by decide) rs1 rs2 rs3) 11 (by decide) (by decide) rfl vw_X11_link ml_L_110 ⟨by decide, by decide⟩ hcs rfl hl.1 rfl (Nat.le_of_ble_eq_true rfl) dL_1033 f1 (fun H locs rr hp => ?_)
  refine lv_aload_n cx.1 cx.2.1 dL_1036 rfl (lv_at hl 2 rfl) ?_
  refine l_arg lx hp hl (j := 1) ⟨by omega, by omega⟩ dL_1037 dL_1038 dL_1039 dL_1040 dL_1041 ?_
  rw [← e1]
  refine l_arg lx hp hl (j := 2) ⟨by omega, by omega⟩ dL_1042 dL_1043 dL_1044 dL_1045 dL_1046 ?_
  rw [← e2]
  refine l_arg lx hp hl (j := 3) ⟨by omega, by omega⟩ dL_1047 dL_1048 dL_1049 dL_1050 dL_1051 ?_
  rw [← e3]
  refine l_call (As := [.int (ii s1), .int (ii s2), .int (ii s3)]) (rest := [.int (ii r)]) cx hp (mX12_link F l g s.heap.size h1 181 s1 s2 s3 (by decide) rs1 rs2 rs3) 12 (by decide) (by decide) rfl vw_X12_link ml_L_113 ⟨by decide, by decide⟩ hcs rfl hl.1 rfl (Nat.le_of_ble_eq_true rfl) dL_1052 f2 (fun H locs rr hp => ?_)
  refine lv_icmp_eq (tgt := 1555) cx.1 cx.2.1 dL_1055 (by decide) (fun _ => ?_) (fun q => absurd rfl q)
  exact kk h2 _ _ hI2 hp
theorem dL_1060 : decode code 1060 = .ok (.aload_n 1, 1) := by decide +kernel
theorem dL_1061 : decode code 1061 = .ok (.aload_n 0, 1) := by decide +kernel
theorem dL_1062 : decode code 1062 = .ok (.iload_n 3, 1) := by decide +kernel
theorem dL_1063 : decode code 1063 = .ok (.iconst 1, 1) := by decide +kernel
theorem dL_1064 : decode code 1064 = .ok (.iadd, 1) := by decide +kernel
theorem dL_1065 : decode code 1065 = .ok (.iaload, 1) := by decide +kernel
theorem dL_1066 : decode code 1066 = .ok (.aload_n 0, 1) := by decide +kernel
theorem dL_1067 : decode code 1067 = .ok (.iload_n 3, 1) := by decide +kernel
theorem dL_1068 : decode code 1068 = .ok (.iconst 2, 1) := by decide +kernel
theorem dL_1069 : decode code 1069 = .ok (.iadd, 1) := by decide +kernel
theorem dL_1070 : decode code 1070 = .ok (.iaload, 1) := by decide +kernel
theorem dL_1071 : decode code 1071 = .ok (.invokevirtual 114, 3) := by decide +kernel
theorem dL_1074 : decode code 1074 = .ok (.aload_n 2, 1) := by decide +kernel
theorem dL_1075 : decode code 1075 = .ok (.aload_n 0, 1) := by decide +kernel
theorem dL_1076 : decode code 1076 = .ok (.iload_n 3, 1) := by decide +kernel
theorem dL_1077 : decode code 1077 = .ok (.iconst 1, 1) := by decide +kernel
theorem dL_1078 : decode code 1078 = .ok (.iadd, 1) := by decide +kernel
theorem dL_1079 : decode code 1079 = .ok (.iaload, 1) := by decide +kernel
theorem dL_1080 : decode code 1080 = .ok (.aload_n 0, 1) := by decide +kernel
theorem dL_1081 : decode code 1081 = .ok (.iload_n 3, 1) := by decide +kernel
theorem dL_1082 : decode code 1082 = .ok (.iconst 2, 1) := by decide +kernel
theorem dL_1083 : decode code 1083 = .ok (.iadd, 1) := by decide +kernel
theorem dL_1084 : decode code 1084 = .ok (.iaload, 1) := by decide +kernel
theorem dL_1085 : decode code 1085 = .ok (.invokevirtual 117, 3) := by decide +kernel
theorem dL_1088 : decode code 1088 = .ok (.if_icmp .eq 467, 3) := by decide +kernel
theorem ml_L_114 : Cond.methodLink R_law 114 yX11_congruence ∈ AW := (aw_m4 183 (by decide +kernel) rfl)
theorem ml_L_117 : Cond.methodLink R_law 117 yX12_congruence ∈ AW := (aw_m7 100 (by decide +kernel) rfl)
set_option maxHeartbeats 4000000 in
set_option maxRecDepth 100000 in
theorem lc_24 {p : Program} {l : Launch} {e : Env} {s : State} {m : MethodId} {below : List Frame} {meth : Method} {c : Code} {H : Heap} {locs : List Loc} {cells slots : Nat} {Q : State → Prop} {g : zG} {h : HF} {ls : Array Slot} {b L : Nat} {xs : Nat → Int32} {F : Nat} {Inv : HF → Prop} (hS : PS_congruence F Inv) (lx : Lx p s m meth c b L xs g) (hcs : cells ≤ room_1.cells ∧ slots ≤ room_1.slots) {x : Int} (hx : 0 ≤ x ∧ x + 6 ≤ (L : Int)) (hI : Inv h) (hp : Hp g s.heap.size s h H locs) (hl : lv_has ls 4 [(0, .ref b), (1, .ref (s.heap.size + 0)), (2, .ref (s.heap.size + 181)), (3, .int (ii x))]) (kk : ∀ (h : HF) (H : Heap) (locs : List Loc), Inv h → Hp g s.heap.size s h H locs → W p l e room_1 s m #[Value.ref b] below meth c H locs cells slots Q (F0 m 1555 ls [])) : W p l e room_1 s m #[Value.ref b] below meth c H locs cells slots Q (F0 m 1060 ls []) := by
  have cx := lx.1
  obtain ⟨s1, e1⟩ : ∃ z, z = (xs (x + 1).toNat).toInt := ⟨_, rfl⟩
  have rs1 : rng s1 := by rw [e1]; exact rng_ti _
  obtain ⟨s2, e2⟩ : ∃ z, z = (xs (x + 2).toNat).toInt := ⟨_, rfl⟩
  have rs2 : rng s2 := by rw [e2]; exact rng_ti _
  obtain ⟨r, h1, h2, f1, f2, hI2⟩ := hS h s1 s2 hI rs1 rs2
  refine lv_aload_n cx.1 cx.2.1 dL_1060 rfl (lv_at hl 1 rfl) ?_
  refine l_arg lx hp hl (j := 1) ⟨by omega, by omega⟩ dL_1061 dL_1062 dL_1063 dL_1064 dL_1065 ?_
  rw [← e1]
  refine l_arg lx hp hl (j := 2) ⟨by omega, by omega⟩ dL_1066 dL_1067 dL_1068 dL_1069 dL_1070 ?_
  rw [← e2]
  refine l_call (As := [.int (ii s1), .int (ii s2)]) (rest := []) cx hp (mX11_congruence F l g s.heap.size h 0 s1 s2 (by decide) rs1 rs2) 11 (by decide) (by decide) rfl vw_X11_congruence ml_L_114 ⟨by decide, by decide⟩ hcs rfl hl.1 rfl (Nat.le_of_ble_eq_true rfl) dL_1071 f1 (fun H locs rr hp => ?_)
  refine lv_aload_n cx.1 cx.2.1 dL_1074 rfl (lv_at hl 2 rfl) ?_
  refine l_arg lx hp hl (j := 1) ⟨by omega, by omega⟩ dL_1075 dL_1076 dL_1077 dL_1078 dL_1079 ?_
  rw [← e1]
  refine l_arg lx hp hl (j := 2) ⟨by omega, by omega⟩ dL_1080 dL_1081 dL_1082 dL_1083 dL_1084 ?_
  rw [← e2]
  refine l_call (As := [.int (ii s1), .int (ii s2)]) (rest := [.int (ii r)]) cx hp (mX12_congruence F l g s.heap.size h1 181 s1 s2 (by decide) rs1 rs2) 12 (by decide) (by decide) rfl vw_X12_congruence ml_L_117 ⟨by decide, by decide⟩ hcs rfl hl.1 rfl (Nat.le_of_ble_eq_true rfl) dL_1085 f2 (fun H locs rr hp => ?_)
  refine lv_icmp_eq (tgt := 1555) cx.1 cx.2.1 dL_1088 (by decide) (fun _ => ?_) (fun q => absurd rfl q)
  exact kk h2 _ _ hI2 hp
theorem dL_1093 : decode code 1093 = .ok (.aload_n 1, 1) := by decide +kernel
theorem dL_1094 : decode code 1094 = .ok (.aload_n 0, 1) := by decide +kernel
theorem dL_1095 : decode code 1095 = .ok (.iload_n 3, 1) := by decide +kernel
theorem dL_1096 : decode code 1096 = .ok (.iconst 1, 1) := by decide +kernel
theorem dL_1097 : decode code 1097 = .ok (.iadd, 1) := by decide +kernel
theorem dL_1098 : decode code 1098 = .ok (.iaload, 1) := by decide +kernel
theorem dL_1099 : decode code 1099 = .ok (.aload_n 0, 1) := by decide +kernel
theorem dL_1100 : decode code 1100 = .ok (.iload_n 3, 1) := by decide +kernel
theorem dL_1101 : decode code 1101 = .ok (.iconst 2, 1) := by decide +kernel
theorem dL_1102 : decode code 1102 = .ok (.iadd, 1) := by decide +kernel
theorem dL_1103 : decode code 1103 = .ok (.iaload, 1) := by decide +kernel
theorem dL_1104 : decode code 1104 = .ok (.aload_n 0, 1) := by decide +kernel
theorem dL_1105 : decode code 1105 = .ok (.iload_n 3, 1) := by decide +kernel
theorem dL_1106 : decode code 1106 = .ok (.iconst 3, 1) := by decide +kernel
theorem dL_1107 : decode code 1107 = .ok (.iadd, 1) := by decide +kernel
theorem dL_1108 : decode code 1108 = .ok (.iaload, 1) := by decide +kernel
theorem dL_1109 : decode code 1109 = .ok (.aload_n 0, 1) := by decide +kernel
theorem dL_1110 : decode code 1110 = .ok (.iload_n 3, 1) := by decide +kernel
theorem dL_1111 : decode code 1111 = .ok (.iconst 4, 1) := by decide +kernel
theorem dL_1112 : decode code 1112 = .ok (.iadd, 1) := by decide +kernel
theorem dL_1113 : decode code 1113 = .ok (.iaload, 1) := by decide +kernel
theorem dL_1114 : decode code 1114 = .ok (.ifCond .eq 7, 3) := by decide +kernel
theorem dL_1117 : decode code 1117 = .ok (.iconst 1, 1) := by decide +kernel
theorem dL_1118 : decode code 1118 = .ok (.goto 4, 3) := by decide +kernel
theorem dL_1121 : decode code 1121 = .ok (.iconst 0, 1) := by decide +kernel
theorem dL_1122 : decode code 1122 = .ok (.invokevirtual 118, 3) := by decide +kernel
theorem dL_1125 : decode code 1125 = .ok (.aload_n 2, 1) := by decide +kernel
theorem dL_1126 : decode code 1126 = .ok (.aload_n 0, 1) := by decide +kernel
theorem dL_1127 : decode code 1127 = .ok (.iload_n 3, 1) := by decide +kernel
theorem dL_1128 : decode code 1128 = .ok (.iconst 1, 1) := by decide +kernel
theorem dL_1129 : decode code 1129 = .ok (.iadd, 1) := by decide +kernel
theorem dL_1130 : decode code 1130 = .ok (.iaload, 1) := by decide +kernel
theorem dL_1131 : decode code 1131 = .ok (.aload_n 0, 1) := by decide +kernel
theorem dL_1132 : decode code 1132 = .ok (.iload_n 3, 1) := by decide +kernel
theorem dL_1133 : decode code 1133 = .ok (.iconst 2, 1) := by decide +kernel
theorem dL_1134 : decode code 1134 = .ok (.iadd, 1) := by decide +kernel
theorem dL_1135 : decode code 1135 = .ok (.iaload, 1) := by decide +kernel
theorem dL_1136 : decode code 1136 = .ok (.aload_n 0, 1) := by decide +kernel
theorem dL_1137 : decode code 1137 = .ok (.iload_n 3, 1) := by decide +kernel
theorem dL_1138 : decode code 1138 = .ok (.iconst 3, 1) := by decide +kernel
theorem dL_1139 : decode code 1139 = .ok (.iadd, 1) := by decide +kernel
theorem dL_1140 : decode code 1140 = .ok (.iaload, 1) := by decide +kernel
theorem dL_1141 : decode code 1141 = .ok (.aload_n 0, 1) := by decide +kernel
theorem dL_1142 : decode code 1142 = .ok (.iload_n 3, 1) := by decide +kernel
theorem dL_1143 : decode code 1143 = .ok (.iconst 4, 1) := by decide +kernel
theorem dL_1144 : decode code 1144 = .ok (.iadd, 1) := by decide +kernel
theorem dL_1145 : decode code 1145 = .ok (.iaload, 1) := by decide +kernel
theorem dL_1146 : decode code 1146 = .ok (.ifCond .eq 7, 3) := by decide +kernel
theorem dL_1149 : decode code 1149 = .ok (.iconst 1, 1) := by decide +kernel
theorem dL_1150 : decode code 1150 = .ok (.goto 4, 3) := by decide +kernel
theorem dL_1153 : decode code 1153 = .ok (.iconst 0, 1) := by decide +kernel
theorem dL_1154 : decode code 1154 = .ok (.invokevirtual 122, 3) := by decide +kernel
theorem dL_1157 : decode code 1157 = .ok (.if_icmp .eq 398, 3) := by decide +kernel
theorem ml_L_118 : Cond.methodLink R_law 118 yX11_bound ∈ AW := (aw_m4 191 (by decide +kernel) rfl)
theorem ml_L_122 : Cond.methodLink R_law 122 yX12_bound ∈ AW := (aw_m7 136 (by decide +kernel) rfl)
set_option maxHeartbeats 4000000 in
set_option maxRecDepth 100000 in
theorem lc_25 {p : Program} {l : Launch} {e : Env} {s : State} {m : MethodId} {below : List Frame} {meth : Method} {c : Code} {H : Heap} {locs : List Loc} {cells slots : Nat} {Q : State → Prop} {g : zG} {h : HF} {ls : Array Slot} {b L : Nat} {xs : Nat → Int32} {F : Nat} {Inv : HF → Prop} (hS : PS_bound F Inv) (lx : Lx p s m meth c b L xs g) (hcs : cells ≤ room_1.cells ∧ slots ≤ room_1.slots) {x : Int} (hx : 0 ≤ x ∧ x + 6 ≤ (L : Int)) (hI : Inv h) (hp : Hp g s.heap.size s h H locs) (hl : lv_has ls 4 [(0, .ref b), (1, .ref (s.heap.size + 0)), (2, .ref (s.heap.size + 181)), (3, .int (ii x))]) (kk : ∀ (h : HF) (H : Heap) (locs : List Loc), Inv h → Hp g s.heap.size s h H locs → W p l e room_1 s m #[Value.ref b] below meth c H locs cells slots Q (F0 m 1555 ls [])) : W p l e room_1 s m #[Value.ref b] below meth c H locs cells slots Q (F0 m 1093 ls []) := by
  have cx := lx.1
  obtain ⟨s1, e1⟩ : ∃ z, z = (xs (x + 1).toNat).toInt := ⟨_, rfl⟩
  have rs1 : rng s1 := by rw [e1]; exact rng_ti _
  obtain ⟨s2, e2⟩ : ∃ z, z = (xs (x + 2).toNat).toInt := ⟨_, rfl⟩
  have rs2 : rng s2 := by rw [e2]; exact rng_ti _
  obtain ⟨s3, e3⟩ : ∃ z, z = (xs (x + 3).toNat).toInt := ⟨_, rfl⟩
  have rs3 : rng s3 := by rw [e3]; exact rng_ti _
  obtain ⟨s4, e4⟩ : ∃ z, z = (xs (x + 4).toNat).toInt := ⟨_, rfl⟩
  have rs4 : rng s4 := by rw [e4]; exact rng_ti _
  by_cases hz : ii s4 = 0
  · obtain ⟨r, h1, h2, f1, f2, hI2⟩ := hS h s1 s2 s3 0 hI rs1 rs2 rs3 (Or.inl rfl)
    refine lv_aload_n cx.1 cx.2.1 dL_1093 rfl (lv_at hl 1 rfl) ?_
    refine l_arg lx hp hl (j := 1) ⟨by omega, by omega⟩ dL_1094 dL_1095 dL_1096 dL_1097 dL_1098 ?_
    rw [← e1]
    refine l_arg lx hp hl (j := 2) ⟨by omega, by omega⟩ dL_1099 dL_1100 dL_1101 dL_1102 dL_1103 ?_
    rw [← e2]
    refine l_arg lx hp hl (j := 3) ⟨by omega, by omega⟩ dL_1104 dL_1105 dL_1106 dL_1107 dL_1108 ?_
    rw [← e3]
    refine l_arg lx hp hl (j := 4) ⟨by omega, by omega⟩ dL_1109 dL_1110 dL_1111 dL_1112 dL_1113 ?_
    rw [← e4]
    refine lv_if_eq (tgt := 1121) cx.1 cx.2.1 dL_1114 (by decide) (fun _ => ?_) (fun q => absurd hz q)
    refine lv_iconst (v := ii 0) cx.1 cx.2.1 dL_1121 rfl ?_
    refine l_call (As := [.int (ii s1), .int (ii s2), .int (ii s3), .int (ii 0)]) (rest := []) cx hp (mX11_bound F l g s.heap.size h 0 s1 s2 s3 0 (by decide) rs1 rs2 rs3 (by decide)) 11 (by decide) (by decide) rfl vw_X11_bound ml_L_118 ⟨by decide, by decide⟩ hcs rfl hl.1 rfl (Nat.le_of_ble_eq_true rfl) dL_1122 f1 (fun H locs rr hp => ?_)
    refine lv_aload_n cx.1 cx.2.1 dL_1125 rfl (lv_at hl 2 rfl) ?_
    refine l_arg lx hp hl (j := 1) ⟨by omega, by omega⟩ dL_1126 dL_1127 dL_1128 dL_1129 dL_1130 ?_
    rw [← e1]
    refine l_arg lx hp hl (j := 2) ⟨by omega, by omega⟩ dL_1131 dL_1132 dL_1133 dL_1134 dL_1135 ?_
    rw [← e2]
    refine l_arg lx hp hl (j := 3) ⟨by omega, by omega⟩ dL_1136 dL_1137 dL_1138 dL_1139 dL_1140 ?_
    rw [← e3]
    refine l_arg lx hp hl (j := 4) ⟨by omega, by omega⟩ dL_1141 dL_1142 dL_1143 dL_1144 dL_1145 ?_
    rw [← e4]
    refine lv_if_eq (tgt := 1153) cx.1 cx.2.1 dL_1146 (by decide) (fun _ => ?_) (fun q => absurd hz q)
    refine lv_iconst (v := ii 0) cx.1 cx.2.1 dL_1153 rfl ?_
    refine l_call (As := [.int (ii s1), .int (ii s2), .int (ii s3), .int (ii 0)]) (rest := [.int (ii r)]) cx hp (mX12_bound F l g s.heap.size h1 181 s1 s2 s3 0 (by decide) rs1 rs2 rs3 (by decide)) 12 (by decide) (by decide) rfl vw_X12_bound ml_L_122 ⟨by decide, by decide⟩ hcs rfl hl.1 rfl (Nat.le_of_ble_eq_true rfl) dL_1154 f2 (fun H locs rr hp => ?_)
    refine lv_icmp_eq (tgt := 1555) cx.1 cx.2.1 dL_1157 (by decide) (fun _ => ?_) (fun q => absurd rfl q)
    exact kk h2 _ _ hI2 hp
  · obtain ⟨r, h1, h2, f1, f2, hI2⟩ := hS h s1 s2 s3 1 hI rs1 rs2 rs3 (Or.inr rfl)
    refine lv_aload_n cx.1 cx.2.1 dL_1093 rfl (lv_at hl 1 rfl) ?_
    refine l_arg lx hp hl (j := 1) ⟨by omega, by omega⟩ dL_1094 dL_1095 dL_1096 dL_1097 dL_1098 ?_
    rw [← e1]
    refine l_arg lx hp hl (j := 2) ⟨by omega, by omega⟩ dL_1099 dL_1100 dL_1101 dL_1102 dL_1103 ?_
    rw [← e2]
    refine l_arg lx hp hl (j := 3) ⟨by omega, by omega⟩ dL_1104 dL_1105 dL_1106 dL_1107 dL_1108 ?_
    rw [← e3]
    refine l_arg lx hp hl (j := 4) ⟨by omega, by omega⟩ dL_1109 dL_1110 dL_1111 dL_1112 dL_1113 ?_
    rw [← e4]
    refine lv_if_eq (tgt := 1121) cx.1 cx.2.1 dL_1114 (by decide) (fun q => absurd q hz) (fun _ => ?_)
    refine lv_iconst (v := ii 1) cx.1 cx.2.1 dL_1117 rfl ?_
    refine lv_goto (tgt := 1122) cx.1 cx.2.1 dL_1118 (by decide) ?_
    refine l_call (As := [.int (ii s1), .int (ii s2), .int (ii s3), .int (ii 1)]) (rest := []) cx hp (mX11_bound F l g s.heap.size h 0 s1 s2 s3 1 (by decide) rs1 rs2 rs3 (by decide)) 11 (by decide) (by decide) rfl vw_X11_bound ml_L_118 ⟨by decide, by decide⟩ hcs rfl hl.1 rfl (Nat.le_of_ble_eq_true rfl) dL_1122 f1 (fun H locs rr hp => ?_)
    refine lv_aload_n cx.1 cx.2.1 dL_1125 rfl (lv_at hl 2 rfl) ?_
    refine l_arg lx hp hl (j := 1) ⟨by omega, by omega⟩ dL_1126 dL_1127 dL_1128 dL_1129 dL_1130 ?_
    rw [← e1]
    refine l_arg lx hp hl (j := 2) ⟨by omega, by omega⟩ dL_1131 dL_1132 dL_1133 dL_1134 dL_1135 ?_
    rw [← e2]
    refine l_arg lx hp hl (j := 3) ⟨by omega, by omega⟩ dL_1136 dL_1137 dL_1138 dL_1139 dL_1140 ?_
    rw [← e3]
    refine l_arg lx hp hl (j := 4) ⟨by omega, by omega⟩ dL_1141 dL_1142 dL_1143 dL_1144 dL_1145 ?_
    rw [← e4]
    refine lv_if_eq (tgt := 1153) cx.1 cx.2.1 dL_1146 (by decide) (fun q => absurd q hz) (fun _ => ?_)
    refine lv_iconst (v := ii 1) cx.1 cx.2.1 dL_1149 rfl ?_
    refine lv_goto (tgt := 1154) cx.1 cx.2.1 dL_1150 (by decide) ?_
    refine l_call (As := [.int (ii s1), .int (ii s2), .int (ii s3), .int (ii 1)]) (rest := [.int (ii r)]) cx hp (mX12_bound F l g s.heap.size h1 181 s1 s2 s3 1 (by decide) rs1 rs2 rs3 (by decide)) 12 (by decide) (by decide) rfl vw_X12_bound ml_L_122 ⟨by decide, by decide⟩ hcs rfl hl.1 rfl (Nat.le_of_ble_eq_true rfl) dL_1154 f2 (fun H locs rr hp => ?_)
    refine lv_icmp_eq (tgt := 1555) cx.1 cx.2.1 dL_1157 (by decide) (fun _ => ?_) (fun q => absurd rfl q)
    exact kk h2 _ _ hI2 hp
theorem dL_1162 : decode code 1162 = .ok (.aload_n 1, 1) := by decide +kernel
theorem dL_1163 : decode code 1163 = .ok (.aload_n 0, 1) := by decide +kernel
theorem dL_1164 : decode code 1164 = .ok (.iload_n 3, 1) := by decide +kernel
theorem dL_1165 : decode code 1165 = .ok (.iconst 1, 1) := by decide +kernel
theorem dL_1166 : decode code 1166 = .ok (.iadd, 1) := by decide +kernel
theorem dL_1167 : decode code 1167 = .ok (.iaload, 1) := by decide +kernel
theorem dL_1168 : decode code 1168 = .ok (.aload_n 0, 1) := by decide +kernel
theorem dL_1169 : decode code 1169 = .ok (.iload_n 3, 1) := by decide +kernel
theorem dL_1170 : decode code 1170 = .ok (.iconst 2, 1) := by decide +kernel
theorem dL_1171 : decode code 1171 = .ok (.iadd, 1) := by decide +kernel
theorem dL_1172 : decode code 1172 = .ok (.iaload, 1) := by decide +kernel
theorem dL_1173 : decode code 1173 = .ok (.aload_n 0, 1) := by decide +kernel
theorem dL_1174 : decode code 1174 = .ok (.iload_n 3, 1) := by decide +kernel
theorem dL_1175 : decode code 1175 = .ok (.iconst 3, 1) := by decide +kernel
theorem dL_1176 : decode code 1176 = .ok (.iadd, 1) := by decide +kernel
theorem dL_1177 : decode code 1177 = .ok (.iaload, 1) := by decide +kernel
theorem dL_1178 : decode code 1178 = .ok (.invokevirtual 123, 3) := by decide +kernel
theorem dL_1181 : decode code 1181 = .ok (.aload_n 2, 1) := by decide +kernel
theorem dL_1182 : decode code 1182 = .ok (.aload_n 0, 1) := by decide +kernel
theorem dL_1183 : decode code 1183 = .ok (.iload_n 3, 1) := by decide +kernel
theorem dL_1184 : decode code 1184 = .ok (.iconst 1, 1) := by decide +kernel
theorem dL_1185 : decode code 1185 = .ok (.iadd, 1) := by decide +kernel
theorem dL_1186 : decode code 1186 = .ok (.iaload, 1) := by decide +kernel
theorem dL_1187 : decode code 1187 = .ok (.aload_n 0, 1) := by decide +kernel
theorem dL_1188 : decode code 1188 = .ok (.iload_n 3, 1) := by decide +kernel
theorem dL_1189 : decode code 1189 = .ok (.iconst 2, 1) := by decide +kernel
theorem dL_1190 : decode code 1190 = .ok (.iadd, 1) := by decide +kernel
theorem dL_1191 : decode code 1191 = .ok (.iaload, 1) := by decide +kernel
theorem dL_1192 : decode code 1192 = .ok (.aload_n 0, 1) := by decide +kernel
theorem dL_1193 : decode code 1193 = .ok (.iload_n 3, 1) := by decide +kernel
theorem dL_1194 : decode code 1194 = .ok (.iconst 3, 1) := by decide +kernel
theorem dL_1195 : decode code 1195 = .ok (.iadd, 1) := by decide +kernel
theorem dL_1196 : decode code 1196 = .ok (.iaload, 1) := by decide +kernel
theorem dL_1197 : decode code 1197 = .ok (.invokevirtual 126, 3) := by decide +kernel
theorem dL_1200 : decode code 1200 = .ok (.if_icmp .eq 355, 3) := by decide +kernel
theorem ml_L_123 : Cond.methodLink R_law 123 yX11_quotient ∈ AW := (aw_m4 211 (by decide +kernel) rfl)
theorem ml_L_126 : Cond.methodLink R_law 126 yX12_quotient ∈ AW := (aw_m7 152 (by decide +kernel) rfl)
set_option maxHeartbeats 4000000 in
set_option maxRecDepth 100000 in
theorem lc_26 {p : Program} {l : Launch} {e : Env} {s : State} {m : MethodId} {below : List Frame} {meth : Method} {c : Code} {H : Heap} {locs : List Loc} {cells slots : Nat} {Q : State → Prop} {g : zG} {h : HF} {ls : Array Slot} {b L : Nat} {xs : Nat → Int32} {F : Nat} {Inv : HF → Prop} (hS : PS_quotient F Inv) (lx : Lx p s m meth c b L xs g) (hcs : cells ≤ room_1.cells ∧ slots ≤ room_1.slots) {x : Int} (hx : 0 ≤ x ∧ x + 6 ≤ (L : Int)) (hI : Inv h) (hp : Hp g s.heap.size s h H locs) (hl : lv_has ls 4 [(0, .ref b), (1, .ref (s.heap.size + 0)), (2, .ref (s.heap.size + 181)), (3, .int (ii x))]) (kk : ∀ (h : HF) (H : Heap) (locs : List Loc), Inv h → Hp g s.heap.size s h H locs → W p l e room_1 s m #[Value.ref b] below meth c H locs cells slots Q (F0 m 1555 ls [])) : W p l e room_1 s m #[Value.ref b] below meth c H locs cells slots Q (F0 m 1162 ls []) := by
  have cx := lx.1
  obtain ⟨s1, e1⟩ : ∃ z, z = (xs (x + 1).toNat).toInt := ⟨_, rfl⟩
  have rs1 : rng s1 := by rw [e1]; exact rng_ti _
  obtain ⟨s2, e2⟩ : ∃ z, z = (xs (x + 2).toNat).toInt := ⟨_, rfl⟩
  have rs2 : rng s2 := by rw [e2]; exact rng_ti _
  obtain ⟨s3, e3⟩ : ∃ z, z = (xs (x + 3).toNat).toInt := ⟨_, rfl⟩
  have rs3 : rng s3 := by rw [e3]; exact rng_ti _
  obtain ⟨r, h1, h2, f1, f2, hI2⟩ := hS h s1 s2 s3 hI rs1 rs2 rs3
  refine lv_aload_n cx.1 cx.2.1 dL_1162 rfl (lv_at hl 1 rfl) ?_
  refine l_arg lx hp hl (j := 1) ⟨by omega, by omega⟩ dL_1163 dL_1164 dL_1165 dL_1166 dL_1167 ?_
  rw [← e1]
  refine l_arg lx hp hl (j := 2) ⟨by omega, by omega⟩ dL_1168 dL_1169 dL_1170 dL_1171 dL_1172 ?_
  rw [← e2]
  refine l_arg lx hp hl (j := 3) ⟨by omega, by omega⟩ dL_1173 dL_1174 dL_1175 dL_1176 dL_1177 ?_
  rw [← e3]
  refine l_call (As := [.int (ii s1), .int (ii s2), .int (ii s3)]) (rest := []) cx hp (mX11_quotient F l g s.heap.size h 0 s1 s2 s3 (by decide) rs1 rs2 rs3) 11 (by decide) (by decide) rfl vw_X11_quotient ml_L_123 ⟨by decide, by decide⟩ hcs rfl hl.1 rfl (Nat.le_of_ble_eq_true rfl) dL_1178 f1 (fun H locs rr hp => ?_)
  refine lv_aload_n cx.1 cx.2.1 dL_1181 rfl (lv_at hl 2 rfl) ?_
  refine l_arg lx hp hl (j := 1) ⟨by omega, by omega⟩ dL_1182 dL_1183 dL_1184 dL_1185 dL_1186 ?_
  rw [← e1]
  refine l_arg lx hp hl (j := 2) ⟨by omega, by omega⟩ dL_1187 dL_1188 dL_1189 dL_1190 dL_1191 ?_
  rw [← e2]
  refine l_arg lx hp hl (j := 3) ⟨by omega, by omega⟩ dL_1192 dL_1193 dL_1194 dL_1195 dL_1196 ?_
  rw [← e3]
  refine l_call (As := [.int (ii s1), .int (ii s2), .int (ii s3)]) (rest := [.int (ii r)]) cx hp (mX12_quotient F l g s.heap.size h1 181 s1 s2 s3 (by decide) rs1 rs2 rs3) 12 (by decide) (by decide) rfl vw_X12_quotient ml_L_126 ⟨by decide, by decide⟩ hcs rfl hl.1 rfl (Nat.le_of_ble_eq_true rfl) dL_1197 f2 (fun H locs rr hp => ?_)
  refine lv_icmp_eq (tgt := 1555) cx.1 cx.2.1 dL_1200 (by decide) (fun _ => ?_) (fun q => absurd rfl q)
  exact kk h2 _ _ hI2 hp
theorem dL_1205 : decode code 1205 = .ok (.aload_n 1, 1) := by decide +kernel
theorem dL_1206 : decode code 1206 = .ok (.aload_n 0, 1) := by decide +kernel
theorem dL_1207 : decode code 1207 = .ok (.iload_n 3, 1) := by decide +kernel
theorem dL_1208 : decode code 1208 = .ok (.iconst 1, 1) := by decide +kernel
theorem dL_1209 : decode code 1209 = .ok (.iadd, 1) := by decide +kernel
theorem dL_1210 : decode code 1210 = .ok (.iaload, 1) := by decide +kernel
theorem dL_1211 : decode code 1211 = .ok (.aload_n 0, 1) := by decide +kernel
theorem dL_1212 : decode code 1212 = .ok (.iload_n 3, 1) := by decide +kernel
theorem dL_1213 : decode code 1213 = .ok (.iconst 2, 1) := by decide +kernel
theorem dL_1214 : decode code 1214 = .ok (.iadd, 1) := by decide +kernel
theorem dL_1215 : decode code 1215 = .ok (.iaload, 1) := by decide +kernel
theorem dL_1216 : decode code 1216 = .ok (.aload_n 0, 1) := by decide +kernel
theorem dL_1217 : decode code 1217 = .ok (.iload_n 3, 1) := by decide +kernel
theorem dL_1218 : decode code 1218 = .ok (.iconst 3, 1) := by decide +kernel
theorem dL_1219 : decode code 1219 = .ok (.iadd, 1) := by decide +kernel
theorem dL_1220 : decode code 1220 = .ok (.iaload, 1) := by decide +kernel
theorem dL_1221 : decode code 1221 = .ok (.aload_n 0, 1) := by decide +kernel
theorem dL_1222 : decode code 1222 = .ok (.iload_n 3, 1) := by decide +kernel
theorem dL_1223 : decode code 1223 = .ok (.iconst 4, 1) := by decide +kernel
theorem dL_1224 : decode code 1224 = .ok (.iadd, 1) := by decide +kernel
theorem dL_1225 : decode code 1225 = .ok (.iaload, 1) := by decide +kernel
theorem dL_1226 : decode code 1226 = .ok (.invokevirtual 127, 3) := by decide +kernel
theorem dL_1229 : decode code 1229 = .ok (.aload_n 2, 1) := by decide +kernel
theorem dL_1230 : decode code 1230 = .ok (.aload_n 0, 1) := by decide +kernel
theorem dL_1231 : decode code 1231 = .ok (.iload_n 3, 1) := by decide +kernel
theorem dL_1232 : decode code 1232 = .ok (.iconst 1, 1) := by decide +kernel
theorem dL_1233 : decode code 1233 = .ok (.iadd, 1) := by decide +kernel
theorem dL_1234 : decode code 1234 = .ok (.iaload, 1) := by decide +kernel
theorem dL_1235 : decode code 1235 = .ok (.aload_n 0, 1) := by decide +kernel
theorem dL_1236 : decode code 1236 = .ok (.iload_n 3, 1) := by decide +kernel
theorem dL_1237 : decode code 1237 = .ok (.iconst 2, 1) := by decide +kernel
theorem dL_1238 : decode code 1238 = .ok (.iadd, 1) := by decide +kernel
theorem dL_1239 : decode code 1239 = .ok (.iaload, 1) := by decide +kernel
theorem dL_1240 : decode code 1240 = .ok (.aload_n 0, 1) := by decide +kernel
theorem dL_1241 : decode code 1241 = .ok (.iload_n 3, 1) := by decide +kernel
theorem dL_1242 : decode code 1242 = .ok (.iconst 3, 1) := by decide +kernel
theorem dL_1243 : decode code 1243 = .ok (.iadd, 1) := by decide +kernel
theorem dL_1244 : decode code 1244 = .ok (.iaload, 1) := by decide +kernel
theorem dL_1245 : decode code 1245 = .ok (.aload_n 0, 1) := by decide +kernel
theorem dL_1246 : decode code 1246 = .ok (.iload_n 3, 1) := by decide +kernel
theorem dL_1247 : decode code 1247 = .ok (.iconst 4, 1) := by decide +kernel
theorem dL_1248 : decode code 1248 = .ok (.iadd, 1) := by decide +kernel
theorem dL_1249 : decode code 1249 = .ok (.iaload, 1) := by decide +kernel
theorem dL_1250 : decode code 1250 = .ok (.invokevirtual 131, 3) := by decide +kernel
theorem dL_1253 : decode code 1253 = .ok (.if_icmp .eq 302, 3) := by decide +kernel
theorem ml_L_127 : Cond.methodLink R_law 127 yX11_map ∈ AW := (aw_m4 220 (by decide +kernel) rfl)
theorem ml_L_131 : Cond.methodLink R_law 131 yX12_map ∈ AW := (aw_m7 156 (by decide +kernel) rfl)
set_option maxHeartbeats 4000000 in
set_option maxRecDepth 100000 in
theorem lc_27 {p : Program} {l : Launch} {e : Env} {s : State} {m : MethodId} {below : List Frame} {meth : Method} {c : Code} {H : Heap} {locs : List Loc} {cells slots : Nat} {Q : State → Prop} {g : zG} {h : HF} {ls : Array Slot} {b L : Nat} {xs : Nat → Int32} {F : Nat} {Inv : HF → Prop} (hS : PS_map F Inv) (lx : Lx p s m meth c b L xs g) (hcs : cells ≤ room_1.cells ∧ slots ≤ room_1.slots) {x : Int} (hx : 0 ≤ x ∧ x + 6 ≤ (L : Int)) (hI : Inv h) (hp : Hp g s.heap.size s h H locs) (hl : lv_has ls 4 [(0, .ref b), (1, .ref (s.heap.size + 0)), (2, .ref (s.heap.size + 181)), (3, .int (ii x))]) (kk : ∀ (h : HF) (H : Heap) (locs : List Loc), Inv h → Hp g s.heap.size s h H locs → W p l e room_1 s m #[Value.ref b] below meth c H locs cells slots Q (F0 m 1555 ls [])) : W p l e room_1 s m #[Value.ref b] below meth c H locs cells slots Q (F0 m 1205 ls []) := by
  have cx := lx.1
  obtain ⟨s1, e1⟩ : ∃ z, z = (xs (x + 1).toNat).toInt := ⟨_, rfl⟩
  have rs1 : rng s1 := by rw [e1]; exact rng_ti _
  obtain ⟨s2, e2⟩ : ∃ z, z = (xs (x + 2).toNat).toInt := ⟨_, rfl⟩
  have rs2 : rng s2 := by rw [e2]; exact rng_ti _
  obtain ⟨s3, e3⟩ : ∃ z, z = (xs (x + 3).toNat).toInt := ⟨_, rfl⟩
  have rs3 : rng s3 := by rw [e3]; exact rng_ti _
  obtain ⟨s4, e4⟩ : ∃ z, z = (xs (x + 4).toNat).toInt := ⟨_, rfl⟩
  have rs4 : rng s4 := by rw [e4]; exact rng_ti _
  obtain ⟨r, h1, h2, f1, f2, hI2⟩ := hS h s1 s2 s3 s4 hI rs1 rs2 rs3 rs4
  refine lv_aload_n cx.1 cx.2.1 dL_1205 rfl (lv_at hl 1 rfl) ?_
  refine l_arg lx hp hl (j := 1) ⟨by omega, by omega⟩ dL_1206 dL_1207 dL_1208 dL_1209 dL_1210 ?_
  rw [← e1]
  refine l_arg lx hp hl (j := 2) ⟨by omega, by omega⟩ dL_1211 dL_1212 dL_1213 dL_1214 dL_1215 ?_
  rw [← e2]
  refine l_arg lx hp hl (j := 3) ⟨by omega, by omega⟩ dL_1216 dL_1217 dL_1218 dL_1219 dL_1220 ?_
  rw [← e3]
  refine l_arg lx hp hl (j := 4) ⟨by omega, by omega⟩ dL_1221 dL_1222 dL_1223 dL_1224 dL_1225 ?_
  rw [← e4]
  refine l_call (As := [.int (ii s1), .int (ii s2), .int (ii s3), .int (ii s4)]) (rest := []) cx hp (mX11_map F l g s.heap.size h 0 s1 s2 s3 s4 (by decide) rs1 rs2 rs3 rs4) 11 (by decide) (by decide) rfl vw_X11_map ml_L_127 ⟨by decide, by decide⟩ hcs rfl hl.1 rfl (Nat.le_of_ble_eq_true rfl) dL_1226 f1 (fun H locs rr hp => ?_)
  refine lv_aload_n cx.1 cx.2.1 dL_1229 rfl (lv_at hl 2 rfl) ?_
  refine l_arg lx hp hl (j := 1) ⟨by omega, by omega⟩ dL_1230 dL_1231 dL_1232 dL_1233 dL_1234 ?_
  rw [← e1]
  refine l_arg lx hp hl (j := 2) ⟨by omega, by omega⟩ dL_1235 dL_1236 dL_1237 dL_1238 dL_1239 ?_
  rw [← e2]
  refine l_arg lx hp hl (j := 3) ⟨by omega, by omega⟩ dL_1240 dL_1241 dL_1242 dL_1243 dL_1244 ?_
  rw [← e3]
  refine l_arg lx hp hl (j := 4) ⟨by omega, by omega⟩ dL_1245 dL_1246 dL_1247 dL_1248 dL_1249 ?_
  rw [← e4]
  refine l_call (As := [.int (ii s1), .int (ii s2), .int (ii s3), .int (ii s4)]) (rest := [.int (ii r)]) cx hp (mX12_map F l g s.heap.size h1 181 s1 s2 s3 s4 (by decide) rs1 rs2 rs3 rs4) 12 (by decide) (by decide) rfl vw_X12_map ml_L_131 ⟨by decide, by decide⟩ hcs rfl hl.1 rfl (Nat.le_of_ble_eq_true rfl) dL_1250 f2 (fun H locs rr hp => ?_)
  refine lv_icmp_eq (tgt := 1555) cx.1 cx.2.1 dL_1253 (by decide) (fun _ => ?_) (fun q => absurd rfl q)
  exact kk h2 _ _ hI2 hp
