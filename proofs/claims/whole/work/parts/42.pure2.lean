/-! trim, out -/
theorem TP_take {h : HF} {o k a : Nat} {t : List Int} {n : Nat} (ht : TP h o k a t) (hoa : o ≠ a) (hn : n ≤ t.length) : TP (stp h o k (n : Int)) o k a (t.take n) := by
  refine ⟨by rw [stp_eq, List.length_take]; congr 1; omega, fun i hi => ?_⟩
  rw [List.length_take] at hi
  rw [stp_ne (Or.inl (fun q => hoa q.symm)), ht.2 i (by omega), List.getD_eq_getElem?_getD, List.getD_eq_getElem?_getD, List.getElem?_take_of_lt (by omega)]
/-- 'thrown' alone changes -/
theorem Inv_thrown {I4 I5 I6 : HF → Prop} {h : HF} (hI : InvP I4 I5 I6 h) : InvP I4 I5 I6 (stp h 181 0 0) := by
  obtain ⟨⟨t, hc, hm, hl, hb⟩, ⟨o, oc, om, ol⟩, h3, h4, h5, h6⟩ := hI
  have k : ∀ c' k', (c' ≠ 181 ∨ k' ≠ 0) → stp h 181 0 0 c' k' = h c' k' := fun c' k' q => stp_ne q
  refine ⟨⟨t, TP_keep hc (k _ _ (by decide)) (fun i => k _ _ (Or.inl (by decide))), TP_keep hm (k _ _ (by decide)) (fun i => k _ _ (Or.inl (by decide))), hl, hb⟩, ⟨o, TP_keep oc (k _ _ (by decide)) (fun i => k _ _ (Or.inl (by decide))), TP_keep om (k _ _ (by decide)) (fun i => k _ _ (Or.inl (by decide))), ol⟩, ⟨?_, ?_⟩, Inv_keep h4 h5 h6 (fun c' k' hq => k c' k' (by omega))⟩
  · rw [k 86 0 (by decide), k 181 5 (by decide)]; exact h3.1
  · rw [k 86 0 (by decide)]; exact h3.2
theorem ps_trim {I4 I5 I6 : HF → Prop} {F : Nat} : PS_trim F (InvP I4 I5 I6) := by
  intro h a hI ra
  have hI0 := hI
  obtain ⟨⟨t, hc, hm, hl, hb⟩, ⟨o, oc, om, ol⟩, h3, h4, h5, h6⟩ := hI
  have e1 := hc.1
  have e2 : stp h 181 0 0 181 2 = (t.length : Int) := by rw [stp_ne (Or.inr (by decide))]; exact hm.1
  unfold fX11_trim fX12_trim
  simp only [zjn, zgf, zpf, e1, e2]
  by_cases q0 : a < 0
  · rw [if_pos q0]
    refine ⟨-3, h, stp h 181 0 0, rfl, ?_, Inv_thrown hI0⟩
    rw [if_pos q0]
  · rw [if_neg q0]
    by_cases q1 : (t.length : Int) < a
    · rw [if_pos q1]
      refine ⟨-3, h, stp h 181 0 0, rfl, ?_, Inv_thrown hI0⟩
      rw [if_neg q0, e2, if_pos q1]
    · rw [if_neg q1]
      obtain ⟨n, rfl⟩ : ∃ n : Nat, a = (n : Int) := ⟨a.toNat, by omega⟩
      have x2 : stp (stp h 1 1 (n : Int)) 181 0 0 181 2 = (t.length : Int) := by rw [stp_ne (Or.inr (by decide)), stp_ne (Or.inl (by decide))]; exact hm.1
      refine ⟨(n : Int), stp h 1 1 (n : Int), stp (stp (stp h 1 1 (n : Int)) 181 0 0) 181 2 (n : Int), rfl, ?_, ?_⟩
      · rw [if_neg q0, x2, if_neg q1]
      · have k : ∀ c' k', (c' ≠ 181 ∨ (k' ≠ 0 ∧ k' ≠ 2)) → (c' ≠ 1 ∨ k' ≠ 1) → stp (stp (stp h 1 1 (n : Int)) 181 0 0) 181 2 (n : Int) c' k' = h c' k' := fun c' k' a1 a2 => by
          rw [stp_ne (by omega), stp_ne (by omega), stp_ne a2]
        have hnl : n ≤ t.length := by omega
        have c1 := TP_take hc (by decide) hnl
        have m0 : TP (stp (stp h 1 1 (n : Int)) 181 0 0) 181 2 182 t := TP_keep hm (by rw [stp_ne (Or.inr (by decide)), stp_ne (Or.inl (by decide))]) (fun i => by rw [stp_ne (Or.inl (by decide)), stp_ne (Or.inl (by decide))])
        have m1 := TP_take m0 (by decide) hnl
        refine ⟨⟨t.take n, TP_keep c1 (by rw [stp_ne (Or.inl (by decide)), stp_ne (Or.inl (by decide))]) (fun i => by rw [stp_ne (Or.inl (by decide)), stp_ne (Or.inl (by decide))]), m1, by rw [List.length_take]; omega, fun b hb' => hb b (List.mem_of_mem_take hb')⟩, ⟨o, TP_keep oc (k _ _ (by decide) (by decide)) (fun i => k _ _ (Or.inl (by decide)) (Or.inl (by decide))), TP_keep om (k _ _ (by decide) (by decide)) (fun i => k _ _ (Or.inl (by decide)) (Or.inl (by decide))), ol⟩, ⟨?_, ?_⟩, Inv_keep h4 h5 h6 (fun c' k' hq => k c' k' (by omega) (by omega))⟩
        · rw [k 86 0 (by decide) (by decide), k 181 5 (by decide) (by decide)]; exact h3.1
        · rw [k 86 0 (by decide) (by decide)]; exact h3.2
theorem ps_out {I4 I5 I6 : HF → Prop} {F : Nat} : PS_out F (InvP I4 I5 I6) := by
  intro h a hI ra
  have hI0 := hI
  obtain ⟨_, ⟨o, oc, om, ol⟩, _⟩ := hI
  have e1 := oc.1
  have e2 : stp h 181 0 0 181 4 = (o.length : Int) := by rw [stp_ne (Or.inr (by decide))]; exact om.1
  unfold fX11_out fX12_out fX1_byteAt
  simp only [zjn, zgf, zpf]
  rw [show h (0 + 3) 1 = (o.length : Int) from e1]
  by_cases q0 : a < 0
  · rw [if_pos q0, zbd_some]
    refine ⟨-1, h, stp h 181 0 0, rfl, ?_, Inv_thrown hI0⟩
    rw [if_pos q0]
  · rw [if_neg q0]
    by_cases q1 : a < (o.length : Int)
    · obtain ⟨n, rfl⟩ : ∃ n : Nat, a = (n : Int) := ⟨a.toNat, by omega⟩
      rw [if_pos q1, zrd_ok (a := 0 + 3 + 1) ⟨by omega, by show _ < ((205 : Nat) : Int); omega⟩, zbd_some]
      refine ⟨_, h, stp h 181 0 0, rfl, ?_, Inv_thrown hI0⟩
      rw [if_neg q0, e2, if_pos q1, zrd_ok (a := 181 + 2) ⟨by omega, by show _ < ((210 : Nat) : Int); omega⟩]
      show some (stp h 181 0 0 183 _, _) = some (h 4 _, _)
      rw [stp_ne (Or.inl (by decide)), Int.toNat_natCast, oc.2 n (by omega), om.2 n (by omega)]
    · rw [if_neg q1, zbd_some]
      refine ⟨-1, h, stp h 181 0 0, rfl, ?_, Inv_thrown hI0⟩
      rw [if_neg q0, e2, if_neg q1]
