/-! the class's search: all its leaps -/
section SK
variable {F n i nl ns T L : Nat} {ar : List Nat} {sg mn se lf rt lw : Nat → Nat}
theorem seek_L (hF : 6000 ≤ F) (hn : 1 ≤ n ∧ n ≤ 7) (hl : ar.length ≤ 4) (h2 : ∀ o, o < ar.length → ar.getD o 0 ≤ 2) (hL : LCell L) (hP : LLP nl ns T sg mn se lf rt lw) (hf : fitP ar sg mn T) (hM : n ^ sto n ar ar.length ≤ 60000) {u3 : Int} {k171 k105 : HF → RO} : ∀ (m c N k : Nat) (h : HF), c + m = n ^ sto n ar ar.length → 1 ≤ m → m + 1 ≤ N → k ≤ c → CLx h 6 L n ar (TB n ar c) nl ns T sg mn se lf rt lw → h 114 0 = ((sumF (fun c => b1 (cnB n ar nl sg mn se lf rt lw true c)) c 0 : Nat) : Int) → h 114 1 = ((sumF (wgB n ar nl sg mn se lf rt lw) c 0 : Nat) : Int) → ∃ h', (∀ x i, x ≠ 9 → (x < 91 ∨ 93 < x) → (x < 105 ∨ 109 < x) → x ≠ 114 → h' x i = h x i) ∧ ((LX8_seek_16 F 114 6 L u3 k171 k105 N 1 (k : Int) h = k171 h' ∧ h' 114 0 = ((sumF (fun c => b1 (cnB n ar nl sg mn se lf rt lw true c)) (n ^ sto n ar ar.length) 0 : Nat) : Int) ∧ h' 114 1 = ((sumF (wgB n ar nl sg mn se lf rt lw) (n ^ sto n ar ar.length) 0 : Nat) : Int) ∧ ∀ f, c ≤ f → f < n ^ sto n ar ar.length → cnB n ar nl sg mn se lf rt lw true f = true → ((sumF (fun c => b1 (cnB n ar nl sg mn se lf rt lw true c)) f 0 : Nat) : Int) ≠ u3) ∨ (∃ f, c ≤ f ∧ f < n ^ sto n ar ar.length ∧ cnB n ar nl sg mn se lf rt lw true f = true ∧ ((sumF (fun c => b1 (cnB n ar nl sg mn se lf rt lw true c)) f 0 : Nat) : Int) = u3 ∧ LX8_seek_16 F 114 6 L u3 k171 k105 N 1 (k : Int) h = k105 h' ∧ RepC h' 6 n ar (TB n ar f) ∧ h' 105 2 = (stb n ar f : Int))) := by
  have hLf := LCell_far hL
  have hk6 : kt 6 = 0 + 3 := by decide
  intro m
  induction m using Nat.strongRecOn with
  | ind m ih =>
    intro c N k h hc hm hN hkc hX s0 s1
    obtain ⟨N, rfl⟩ : ∃ M, N = M + 1 := ⟨N - 1, by omega⟩
    have hcM : c < n ^ sto n ar ar.length := by omega
    have hw := TB_WF hn hl h2 hcM
    have gM := wgB_sum hn hl h2 hP hf
    have gL := cn_sum_le (n := n) (ar := ar) (nl := nl) (sg := sg) (mn := mn) (se := se) (lf := lf) (rt := rt) (lw := lw) (u := false) (n ^ sto n ar ar.length)
    have gm : ∀ a, a ≤ n ^ sto n ar ar.length → sumF (wgB n ar nl sg mn se lf rt lw) a 0 ≤ 60000 := fun a ha => by
      have := sum_mono (f := wgB n ar nl sg mn se lf rt lw) ha
      omega
    -- the leap
    have leap : ∀ (s c2 : Nat) (g : HF), s ≤ sto n ar ar.length → c2 = jmp n (sto n ar ar.length) c s → CLx g 6 L n ar (TB n ar c) nl ns T sg mn se lf rt lw → (∀ e, c < e → e ≤ c2 → e ≤ n ^ sto n ar ar.length → (e = c2 ∨ e = n ^ sto n ar ar.length) → g 114 0 = ((sumF (fun c => b1 (cnB n ar nl sg mn se lf rt lw true c)) e 0 : Nat) : Int) ∧ g 114 1 = ((sumF (wgB n ar nl sg mn se lf rt lw) e 0 : Nat) : Int)) → (∀ f, c ≤ f → f < c2 → f < n ^ sto n ar ar.length → cnB n ar nl sg mn se lf rt lw true f = true → ((sumF (fun c => b1 (cnB n ar nl sg mn se lf rt lw true c)) f 0 : Nat) : Int) ≠ u3) → (∀ x i, x ≠ 9 → (x < 91 ∨ 93 < x) → (x < 105 ∨ 109 < x) → x ≠ 114 → g x i = h x i) → ∃ h', (∀ x i, x ≠ 9 → (x < 91 ∨ 93 < x) → (x < 105 ∨ 109 < x) → x ≠ 114 → h' x i = h x i) ∧ (((zbd (fX8_advance F 114 6 ((s : Int) - 1) g) fun r h => LX8_seek_16 F 114 6 L u3 k171 k105 N r ((k + 1 : Nat) : Int) h) = k171 h' ∧ h' 114 0 = ((sumF (fun c => b1 (cnB n ar nl sg mn se lf rt lw true c)) (n ^ sto n ar ar.length) 0 : Nat) : Int) ∧ h' 114 1 = ((sumF (wgB n ar nl sg mn se lf rt lw) (n ^ sto n ar ar.length) 0 : Nat) : Int) ∧ ∀ f, c ≤ f → f < n ^ sto n ar ar.length → cnB n ar nl sg mn se lf rt lw true f = true → ((sumF (fun c => b1 (cnB n ar nl sg mn se lf rt lw true c)) f 0 : Nat) : Int) ≠ u3) ∨ (∃ f, c ≤ f ∧ f < n ^ sto n ar ar.length ∧ cnB n ar nl sg mn se lf rt lw true f = true ∧ ((sumF (fun c => b1 (cnB n ar nl sg mn se lf rt lw true c)) f 0 : Nat) : Int) = u3 ∧ (zbd (fX8_advance F 114 6 ((s : Int) - 1) g) fun r h => LX8_seek_16 F 114 6 L u3 k171 k105 N r ((k + 1 : Nat) : Int) h) = k105 h' ∧ RepC h' 6 n ar (TB n ar f) ∧ h' 105 2 = (stb n ar f : Int))) := by
      intro s c2 g hs e2 hG hS hU hFr
      have hgt : c < c2 := by rw [e2]; exact jmp_gt hn.1 hcM
      obtain ⟨g', a1, a2⟩ := advance_c (F := F) (u0 := 114) (by omega) hn hl h2 hcM hs hG.1
      rw [← e2] at a2
      rcases a2 with ⟨b1, b2, b3⟩ | ⟨b1, b2⟩
      · rw [b2, zbd_some]
        obtain ⟨t0, t1⟩ := hS c2 hgt (Nat.le_refl _) (by omega) (.inl rfl)
        have hX' : CLx g' 6 L n ar (TB n ar c2) nl ns T sg mn se lf rt lw := ⟨b3, LLC_keep (fun x i z => a1 _ _ (by omega)) hG.2⟩
        obtain ⟨h', i1, i2⟩ := ih (n ^ sto n ar ar.length - c2) (by omega) c2 N (k + 1) g' (by omega) (by omega) (by omega) (by omega) hX' (by rw [a1 _ _ (by omega)]; exact t0) (by rw [a1 _ _ (by omega)]; exact t1)
        refine ⟨h', fun x i z1 z2 z3 z4 => by rw [i1 x i z1 z2 z3 z4, a1 x i z1, hFr x i z1 z2 z3 z4], ?_⟩
        rcases i2 with ⟨j1, j2, j3, j4⟩ | ⟨f, j1, j2⟩
        · refine .inl ⟨j1, j2, j3, fun f w1 w2 w3 => ?_⟩
          by_cases q : f < c2
          · exact hU f w1 q w2 w3
          · exact j4 f (by omega) w2 w3
        · exact .inr ⟨f, by omega, j2⟩
      · rw [b2, zbd_some]
        obtain ⟨N, rfl⟩ : ∃ M, N = M + 1 := ⟨N - 1, by omega⟩
        obtain ⟨t0, t1⟩ := hS (n ^ sto n ar ar.length) hcM b1 (Nat.le_refl _) (.inr rfl)
        refine ⟨g', fun x i z1 z2 z3 z4 => by rw [a1 x i z1, hFr x i z1 z2 z3 z4], .inl ⟨?_, by rw [a1 _ _ (by omega)]; exact t0, by rw [a1 _ _ (by omega)]; exact t1, fun f w1 w2 w3 => hU f w1 (by omega) w2 w3⟩⟩
        rw [LX8_seek_16, if_pos rfl, ite_self]
    -- nothing to count up to the leap's end
    have none2 : ∀ (c2 : Nat) (g : HF), g 114 0 = h 114 0 → g 114 1 = h 114 1 → (∀ f, c ≤ f → f < c2 → f < n ^ sto n ar ar.length → cnB n ar nl sg mn se lf rt lw true f = false) → ∀ e, c < e → e ≤ c2 → e ≤ n ^ sto n ar ar.length → (e = c2 ∨ e = n ^ sto n ar ar.length) → g 114 0 = ((sumF (fun c => b1 (cnB n ar nl sg mn se lf rt lw true c)) e 0 : Nat) : Int) ∧ g 114 1 = ((sumF (wgB n ar nl sg mn se lf rt lw) e 0 : Nat) : Int) := by
      intro c2 g g0 g1 hz e w1 w2 w3 _
      rw [g0, g1, s0, s1, sum_skip (f := fun c => b1 (cnB n ar nl sg mn se lf rt lw true c)) (a := c) (b := e) (by omega) (fun j z1 z2 => (skip0 (hz j z1 (by omega) (by omega))).1), sum_skip (f := wgB n ar nl sg mn se lf rt lw) (a := c) (b := e) (by omega) (fun j z1 z2 => (skip0 (hz j z1 (by omega) (by omega))).2)]
      exact ⟨rfl, rfl⟩
    obtain ⟨h1, x1, x2, x3⟩ := firstBroken_c (F := F) (A := 6) (by omega) hk6 (by omega) hL hw hP hf hX
    by_cases q : (fbI n ar (TB n ar c) sg mn se lf rt lw nl 0).isNone = true
    · have hX1 : CLx h1 6 L n ar (TB n ar c) nl ns T sg mn se lf rt lw := CLx_keep (by omega) hL x3 hX
      obtain ⟨h2', y1, y2⟩ := seek_c1 (F := F) (A := 6) (by omega) (by omega) hk6 hw hX1.1
      have hX2 : CLx h2' 6 L n ar (TB n ar c) nl ns T sg mn se lf rt lw := ⟨RepC_keep (fun i k z => y2 _ _ (by omega)) hX1.1, LLC_keep (fun x i z => y2 _ _ (by omega)) hX1.2⟩
      have aid : ∀ f, f < n ^ sto n ar ar.length → wT (TB n ar f) n ar (List.range n) = f := fun f hf => act_id hn hl h2 hf
      have fr2 : ∀ x i, x ≠ 9 → (x < 91 ∨ 93 < x) → (x < 105 ∨ 109 < x) → x ≠ 114 → h2' x i = h x i := fun x i _ z2 z3 _ => by rw [y2 x i z3, x3 x i z2]
      rcases y1 with ⟨y1, x, p1, p2, p3, p4, p5⟩ | ⟨y1, p1, p2⟩
      · -- not least
        obtain ⟨s, es⟩ : ∃ s : Nat, h2' 105 3 = (s : Int) - 1 := ⟨(h2' 105 3 + 1).toNat, by omega⟩
        have e : LX8_seek_16 F 114 6 L u3 k171 k105 (N + 1) 1 (k : Int) h = zbd (fX8_advance F 114 6 ((s : Int) - 1) h2') fun r h => LX8_seek_16 F 114 6 L u3 k171 k105 N r ((k + 1 : Nat) : Int) h := by
          rw [LX8_seek_16, if_pos (show (k : Int) < 60000 by omega), if_neg (show ¬ (1 : Int) = 0 by decide), x1, zbd_some]
          simp only [zjn_eq, zlet_eq, zgf_eq, zpf_eq, if_true, wr_s (show k < 1000000 by omega)]
          rw [if_pos (opI_none.mpr q), y1, zbd_some, if_pos rfl, es]
        rw [e]
        have hz : ∀ f, c ≤ f → f < jmp n (sto n ar ar.length) c s → f < n ^ sto n ar ar.length → cnB n ar nl sg mn se lf rt lw true f = false := fun f z1 z2 z3 => by
          have ag := TB_pre hn hcM z3 z1 z2 (show s ≤ sto n ar ar.length by omega)
          rw [← es] at ag
          have lt := p5 _ (TB_WF hn hl h2 z3) ag
          rw [aid f z3] at lt
          have : fmB n ar f = false := by
            cases w : fmB n ar f with
            | false => rfl
            | true => exact absurd ((fmB_iff hn).mp w x p1) (by unfold act; omega)
          unfold cnB
          rw [this]; exact Bool.and_false _
        exact leap s _ h2' (by omega) rfl hX2 (none2 _ h2' (by rw [y2 _ _ (by omega), x3 _ _ (by omega)]) (by rw [y2 _ _ (by omega), x3 _ _ (by omega)]) hz) (fun f z1 z2 z3 z4 => by rw [hz f z1 z2 z3] at z4; exact absurd z4 (by decide)) fr2
      · -- a form that keeps the laws
        have fm : fmB n ar c = true := (fmB_iff hn).mpr fun x hx => by
          have := p1 x hx
          rw [aid c hcM] at this
          exact this
        have md : mdB n ar nl sg mn se lf rt lw c = true := q
        have cc : cnB n ar nl sg mn se lf rt lw true c = true := by unfold cnB; rw [md, fm]; rfl
        have st : h2' 105 2 = (stb n ar c : Int) := by
          rw [p2]
          simp only [aid c hcM]
          rfl
        have sp := stb_pos hn hl h2 hcM
        have f0 : h2' 114 0 = ((sumF (fun c => b1 (cnB n ar nl sg mn se lf rt lw true c)) c 0 : Nat) : Int) := by rw [y2 _ _ (by omega), x3 _ _ (by omega), s0]
        have f1 : h2' 114 1 = ((sumF (wgB n ar nl sg mn se lf rt lw) c 0 : Nat) : Int) := by rw [y2 _ _ (by omega), x3 _ _ (by omega), s1]
        by_cases qu : ((sumF (fun c => b1 (cnB n ar nl sg mn se lf rt lw true c)) c 0 : Nat) : Int) = u3
        · refine ⟨h2', fr2, .inr ⟨c, Nat.le_refl _, hcM, cc, qu, ?_, hX2.1, st⟩⟩
          rw [LX8_seek_16, if_pos (show (k : Int) < 60000 by omega), if_neg (show ¬ (1 : Int) = 0 by decide), x1, zbd_some]
          simp only [zjn_eq, zlet_eq, zgf_eq, zpf_eq, if_true]
          rw [if_pos (opI_none.mpr q), y1, zbd_some, if_neg (show ¬ (1 : Int) = 0 by decide), f0, if_pos qu]
        · obtain ⟨S0, eS0⟩ : ∃ S0, S0 = sumF (fun c => b1 (cnB n ar nl sg mn se lf rt lw true c)) c 0 := ⟨_, rfl⟩
          obtain ⟨S1, eS1⟩ : ∃ S1, S1 = sumF (wgB n ar nl sg mn se lf rt lw) c 0 := ⟨_, rfl⟩
          have n0 : sumF (fun c => b1 (cnB n ar nl sg mn se lf rt lw true c)) (c + 1) 0 = S0 + 1 := by
            rw [sum_next, cc, eS0]; rfl
          have n1 : sumF (wgB n ar nl sg mn se lf rt lw) (c + 1) 0 = S1 + fct n / stb n ar c := by
            rw [sum_next, eS1]
            congr 1
            unfold wgB
            rw [fm, md]; rfl
          have b0 := cn_sum_le (n := n) (ar := ar) (nl := nl) (sg := sg) (mn := mn) (se := se) (lf := lf) (rt := rt) (lw := lw) (u := true) (c + 1)
          have b1' := gm (c + 1) (by omega)
          rw [n0] at b0
          rw [n1] at b1'
          have fl := fct_le hn.2
          have hXg : CLx (stp (stp h2' 114 0 ((S0 + 1 : Nat) : Int)) 114 1 ((S1 + fct n / stb n ar c : Nat) : Int)) 6 L n ar (TB n ar c) nl ns T sg mn se lf rt lw := ⟨RepC_keep (fun i k z => by rw [stp_ne (by omega), stp_ne (by omega)]) hX2.1, LLC_keep (fun x i z => by rw [stp_ne (by omega), stp_ne (by omega)]) hX2.2⟩
          have e : LX8_seek_16 F 114 6 L u3 k171 k105 (N + 1) 1 (k : Int) h = zbd (fX8_advance F 114 6 ((sto n ar ar.length : Int) - 1) (stp (stp h2' 114 0 ((S0 + 1 : Nat) : Int)) 114 1 ((S1 + fct n / stb n ar c : Nat) : Int))) fun r h => LX8_seek_16 F 114 6 L u3 k171 k105 N r ((k + 1 : Nat) : Int) h := by
            rw [LX8_seek_16, if_pos (show (k : Int) < 60000 by omega), if_neg (show ¬ (1 : Int) = 0 by decide), x1, zbd_some]
            simp only [zjn_eq, zlet_eq, zgf_eq, zpf_eq, if_true, wr_s (show k < 1000000 by omega)]
            rw [if_pos (opI_none.mpr q), y1, zbd_some, if_neg (show ¬ (1 : Int) = 0 by decide), f0, if_neg qu, ← eS0, wr_s (show S0 < 1000000 by omega)]
            have r1 : stp h2' 114 0 ((S0 + 1 : Nat) : Int) 105 2 = (stb n ar c : Int) := by rw [stp_ne (by omega)]; exact st
            have r2 : stp h2' 114 0 ((S0 + 1 : Nat) : Int) 114 1 = (S1 : Int) := by rw [stp_ne (by omega), f1, eS1]
            have r3 : stp h2' 114 0 ((S0 + 1 : Nat) : Int) 6 0 = (n : Int) := by rw [stp_ne (by omega)]; exact hX2.1.1
            rw [r1, if_pos (by omega), r3, zrn_ok hn, zdv_ok (by omega), r2, wdiv_N (by omega), show (S1 : Int) + ((fct n / stb n ar c : Nat) : Int) = ((S1 + fct n / stb n ar c : Nat) : Int) by omega, wr_id ⟨by omega, by omega⟩, cellCount_eq hk6 hw hXg.1, zbd_some, wr_id ⟨by omega, by have := sto_le hn.2 h2 ar.length (Nat.le_refl _); omega⟩]
          rw [e]
          refine leap (sto n ar ar.length) (c + 1) _ (Nat.le_refl _) (jmp_all hn.1 hcM).symm hXg (fun e w1 w2 w3 _ => ?_) (fun f z1 z2 z3 z4 => ?_) (fun x i z1 z2 z3 z4 => by rw [stp_ne (by omega), stp_ne (by omega)]; exact fr2 x i z1 z2 z3 z4)
          · obtain rfl : e = c + 1 := by omega
            rw [n0, n1]
            exact ⟨by rw [stp_ne (by omega), stp_eq], stp_eq ..⟩
          · obtain rfl : f = c := by omega
            exact qu
    · -- a law is broken
      obtain ⟨e, he⟩ : ∃ e, fbI n ar (TB n ar c) sg mn se lf rt lw nl 0 = some e := by
        cases w : fbI n ar (TB n ar c) sg mn se lf rt lw nl 0 with
        | none => rw [w] at q; exact absurd rfl q
        | some e => exact ⟨e, rfl⟩
      obtain ⟨v1, v2⟩ := x2 e he
      have v3 := v2
      obtain ⟨R, -, -, -, r1, r2, r3, -⟩ := v3
      obtain ⟨s, es⟩ : ∃ s : Nat, h1 91 2 = (s : Int) - 1 := ⟨(h1 91 2 + 1).toNat, by omega⟩
      have hX1 : CLx h1 6 L n ar (TB n ar c) nl ns T sg mn se lf rt lw := CLx_keep (by omega) hL x3 hX
      have ee : LX8_seek_16 F 114 6 L u3 k171 k105 (N + 1) 1 (k : Int) h = zbd (fX8_advance F 114 6 ((s : Int) - 1) h1) fun r h => LX8_seek_16 F 114 6 L u3 k171 k105 N r ((k + 1 : Nat) : Int) h := by
        rw [LX8_seek_16, if_pos (show (k : Int) < 60000 by omega), if_neg (show ¬ (1 : Int) = 0 by decide), x1, zbd_some]
        simp only [zjn_eq, zlet_eq, zgf_eq, zpf_eq, if_true, wr_s (show k < 1000000 by omega)]
        rw [if_neg (fun w => q (opI_none.mp w)), if_neg (show ¬ (1 : Int) = 0 by decide), if_neg (show ¬ (1 : Int) = 0 by decide), es]
      rw [ee]
      have hz : ∀ f, c ≤ f → f < jmp n (sto n ar ar.length) c s → f < n ^ sto n ar ar.length → cnB n ar nl sg mn se lf rt lw true f = false := fun f z1 z2 z3 => by
        have ag := TB_pre hn hcM z3 z1 z2 (show s ≤ sto n ar ar.length by omega)
        rw [← es] at ag
        have nh := RQ_AG hw hP hf v1 v2 ag
        have : mdB n ar nl sg mn se lf rt lw f = false := by
          cases w : mdB n ar nl sg mn se lf rt lw f with
          | false => rfl
          | true => exact absurd ((mdB_iff hn hl h2 hP z3).mp w) nh
        unfold cnB
        rw [this]; rfl
      exact leap s _ h1 (by omega) rfl hX1 (none2 _ h1 (x3 _ _ (by omega)) (x3 _ _ (by omega)) hz) (fun f z1 z2 z3 z4 => by rw [hz f z1 z2 z3] at z4; exact absurd z4 (by decide)) (fun x i _ z2 _ _ => x3 x i z2)
/-- the class's search -/
theorem seek_m {h : HF} (hF : 70000 ≤ F) (hn : 1 ≤ n ∧ n ≤ 7) (hl : ar.length ≤ 4) (h2 : ∀ o, o < ar.length → ar.getD o 0 ≤ 2) (hL : LCell L) (hP : LLP nl ns T sg mn se lf rt lw) (hf : fitP ar sg mn T) (hM : n ^ sto n ar ar.length ≤ 60000) {u3 : Int} (hX : CLx h 6 L n ar (TB n ar 0) nl ns T sg mn se lf rt lw) : ∃ h', (∀ x i, x ≠ 9 → (x < 91 ∨ 93 < x) → (x < 105 ∨ 109 < x) → x ≠ 114 → h' x i = h x i) ∧ ((fX8_seek F 114 6 L u3 h = some (0, h') ∧ h' 114 0 = ((sumF (fun c => b1 (cnB n ar nl sg mn se lf rt lw true c)) (n ^ sto n ar ar.length) 0 : Nat) : Int) ∧ h' 114 1 = ((sumF (fun c => b1 (cnB n ar nl sg mn se lf rt lw false c)) (n ^ sto n ar ar.length) 0 : Nat) : Int) ∧ ∀ f, f < n ^ sto n ar ar.length → cnB n ar nl sg mn se lf rt lw true f = true → ((sumF (fun c => b1 (cnB n ar nl sg mn se lf rt lw true c)) f 0 : Nat) : Int) ≠ u3) ∨ (∃ f, f < n ^ sto n ar ar.length ∧ cnB n ar nl sg mn se lf rt lw true f = true ∧ ((sumF (fun c => b1 (cnB n ar nl sg mn se lf rt lw true c)) f 0 : Nat) : Int) = u3 ∧ fX8_seek F 114 6 L u3 h = some (1, h') ∧ RepC h' 6 n ar (TB n ar f) ∧ h' 105 2 = (stb n ar f : Int))) := by
  have hLf := LCell_far hL
  have hpos : 0 < n ^ sto n ar ar.length := Nat.pow_pos (by omega)
  have hX0 : CLx (stp (stp h 114 0 0) 114 1 0) 6 L n ar (TB n ar 0) nl ns T sg mn se lf rt lw := ⟨RepC_keep (fun i k z => by rw [stp_ne (by omega), stp_ne (by omega)]) hX.1, LLC_keep (fun x i z => by rw [stp_ne (by omega), stp_ne (by omega)]) hX.2⟩
  obtain ⟨h', a1, a2⟩ := seek_L (F := F) (u3 := u3) (k171 := fun h => zrz 0 h) (k105 := fun h => zrz 1 h) (by omega) hn hl h2 hL hP hf hM (n ^ sto n ar ar.length) 0 F 0 _ (by omega) (by omega) (by omega) (by omega) hX0 (by rw [stp_ne (by omega), stp_eq]; rfl) (by rw [stp_eq]; rfl)
  have e : fX8_seek F 114 6 L u3 h = LX8_seek_16 F 114 6 L u3 (fun h => zrz 0 h) (fun h => zrz 1 h) F 1 0 (stp (stp h 114 0 0) 114 1 0) := by
    unfold fX8_seek
    rw [zpf_eq, zpf_eq, zjn_eq, zjn_eq]
  rw [e]
  refine ⟨h', fun x i z1 z2 z3 z4 => by rw [a1 x i z1 z2 z3 z4, stp_ne (by omega), stp_ne (by omega)], ?_⟩
  rcases a2 with ⟨b1, b2, b3, b4⟩ | ⟨f, -, b2, b3, b4, b5, b6⟩
  · exact .inl ⟨b1, b2, by rw [b3, wgB_sum hn hl h2 hP hf], fun f z => b4 f (by omega) z⟩
  · exact .inr ⟨f, b2, b3, b4, b5, b6⟩
end SK
