/-! tell -/
theorem wand_byte {v : Nat} (hv : v < 256) : wand (v : Int) 255 = (v : Int) := by
  rw [show (255 : Int) = ((255 : Nat) : Int) from rfl, wand_N (by omega) (by decide), show (255 : Nat) = 2 ^ 8 - 1 from rfl, Nat.and_two_pow_sub_one_eq_mod, Nat.mod_eq_of_lt (by omega)]
theorem say_eq {F : Nat} {t : List Int} {v : Int} {h : HF} (ht : TP h 181 4 183 t) (hc : t.length < 210) : fX12_say F 181 v h = some (0, psh h 181 4 183 t.length v) := by
  have e0 := ht.1
  unfold fX12_say
  simp only [zgf, zpf]
  rw [e0, zwr_ok (a := 181 + 2) ⟨by omega, by show _ < ((210 : Nat) : Int); omega⟩, Int.toNat_natCast, stp_ne (show (181 : Nat) ≠ 181 + 2 ∨ (4 : Nat) ≠ t.length from Or.inl (by decide)), e0, wr_id ⟨by omega, by omega⟩]
  rfl
def cls (tb : Nat → Nat → Int) (o : Nat) : Nat → Nat → List Int
  | _, 0 => []
  | k, m + 1 => (48 + tb o k) :: cls tb o (k + 1) m
theorem cls_len {tb : Nat → Nat → Int} {o : Nat} : ∀ (m k : Nat), (cls tb o k m).length = m
  | 0, _ => rfl
  | m + 1, k => by simp only [cls, List.length_cons]; rw [cls_len m (k + 1)]
def ltr (r : Nat) : Int := if r = 0 then 99 else if r = 1 then 117 else 98
def opl (tb : Nat → Nat → Int) (n : Nat) (ar : List Nat) : Nat → Nat → List Int
  | _, 0 => []
  | o, m + 1 => 59 :: ltr (ar.getD o 0) :: (cls tb o 0 (pw n (ar.getD o 0)) ++ opl tb n ar (o + 1) m)
theorem opl_len {tb : Nat → Nat → Int} {n : Nat} {ar : List Nat} (hn : n ≤ 7) (h2 : ∀ o, o < ar.length → ar.getD o 0 ≤ 2) : ∀ (m o : Nat), o + m ≤ ar.length → (opl tb n ar o m).length ≤ 51 * m
  | 0, _, _ => Nat.le_refl _
  | m + 1, o, h => by
    have := opl_len hn h2 (tb := tb) m (o + 1) (by omega)
    have := pw_le hn (h2 o (by omega))
    simp only [opl, List.length_cons, List.length_append]
    rw [cls_len]
    omega
section TE
variable {F A d n : Nat} {ar : List Nat} {tb : Nat → Nat → Int}
theorem cTe2 (hA : 117 ≤ A) (hk : kt A = 0 + 3) (hw : WF n ar tb) {o : Nat} (ho : o < ar.length) {k : Int → HF → RO} : ∀ (m i N : Nat) (h : HF) (t : List Int), i + m = pw n (ar.getD o 0) → m + 1 ≤ N → t.length + m ≤ 205 → TP h 3 1 4 t → RepC h A n ar tb → ∃ h', LX0_write_74 F A 3 (o : Int) k N ((sto n ar o + i : Nat) : Int) h = k (o : Int) h' ∧ TP h' 3 1 4 (t ++ cls tb o i m) ∧ ∀ c j, c ≠ 4 → (c ≠ 3 ∨ j ≠ 1) → h' c j = h c j := by
  obtain ⟨-, k1, -, k2, -, k3⟩ := zl_0 A hk
  have hl := hw.2.1
  have hs := sto_le hw.1.2 hw.2.2.1 o (by omega)
  have hp := pw_le hw.1.2 (hw.2.2.1 o ho)
  intro m
  induction m with
  | zero =>
    intro i N h t hi hN hl1 ht hr
    obtain ⟨N, rfl⟩ : ∃ M, N = M + 1 := ⟨N - 1, by omega⟩
    have e5 := hr.2.2.2.2.1 (o + 1) (by omega)
    simp only [sto] at e5
    rw [LX0_write_74, wr_s (by omega), zrd_ok (a := A + 2) ⟨by omega, by rw [k2]; omega⟩, Int.toNat_natCast, e5, if_neg (by omega)]
    exact ⟨h, rfl, by simp only [cls, List.append_nil]; exact ht, fun _ _ _ _ => rfl⟩
  | succ m ih =>
    intro i N h t hi hN hl1 ht hr
    obtain ⟨N, rfl⟩ : ∃ M, N = M + 1 := ⟨N - 1, by omega⟩
    have e5 := hr.2.2.2.2.1 (o + 1) (by omega)
    simp only [sto] at e5
    have e6 := hr.2.2.2.2.2 o ho i (by omega)
    have hb := hw.2.2.2 o ho i (by omega)
    have hn := hw.1.2
    obtain ⟨v, ev⟩ : ∃ v : Nat, tb o i = (v : Int) := ⟨(tb o i).toNat, by omega⟩
    have ab := addByte_eq (F := F) (a := 3) (v := ((48 + v : Nat) : Int)) ht (by show _ < 205; omega) (by decide)
    rw [wand_byte (by omega)] at ab
    have tp := TP_push (v := ((48 + v : Nat) : Int)) ht (show (3 : Nat) ≠ 4 by decide)
    have hr' : RepC (psh h 3 1 4 t.length ((48 + v : Nat) : Int)) A n ar tb := RepC_keep (fun i k hi => psh_off (by omega) (by omega)) hr
    obtain ⟨h', x1, x2, x3⟩ := ih (i + 1) N _ _ (by omega) (by omega) (by simp only [List.length_append, List.length_cons, List.length_nil]; omega) tp hr'
    refine ⟨h', ?_, ?_, fun c j c1 c2 => by rw [x3 c j c1 c2, psh_off c1 c2]⟩
    · rw [LX0_write_74, wr_s (by omega), zrd_ok (a := A + 2) ⟨by omega, by rw [k2]; omega⟩, Int.toNat_natCast, e5, if_pos (by omega), zrd_ok (a := A + 3) ⟨by omega, by rw [k3]; omega⟩, Int.toNat_natCast, e6, ev, wr_id ⟨by omega, by omega⟩, show (48 : Int) + (v : Int) = ((48 + v : Nat) : Int) by omega, ab, zbd_some]
      simp only [zlet]
      rw [wr_s (by omega)]
      exact x1
    · simp only [cls]
      rw [ev, show (48 : Int) + (v : Int) = ((48 + v : Nat) : Int) by omega]
      simpa using x2
theorem cTe1 (hF : 60 ≤ F) (hA : 117 ≤ A) (hk : kt A = 0 + 3) (hw : WF n ar tb) {k : HF → RO} : ∀ (m o N : Nat) (h : HF) (t : List Int), o + m = ar.length → m + 1 ≤ N → t.length + 51 * m ≤ 205 → TP h 3 1 4 t → RepC h A n ar tb → ∃ h', LX0_write_18 F A 3 k N (o : Int) h = k h' ∧ TP h' 3 1 4 (t ++ opl tb n ar o m) ∧ ∀ c j, c ≠ 4 → (c ≠ 3 ∨ j ≠ 1) → h' c j = h c j := by
  obtain ⟨-, k1, -, k2, -, k3⟩ := zl_0 A hk
  have hl := hw.2.1
  intro m
  induction m with
  | zero =>
    intro o N h t ho hN hl1 ht hr
    obtain ⟨N, rfl⟩ : ∃ M, N = M + 1 := ⟨N - 1, by omega⟩
    rw [LX0_write_18]
    simp only [zgf]
    rw [hr.2.1, if_neg (by omega)]
    exact ⟨h, rfl, by simp only [opl, List.append_nil]; exact ht, fun _ _ _ _ => rfl⟩
  | succ m ih =>
    intro o N h t ho hN hl1 ht hr
    obtain ⟨N, rfl⟩ : ∃ M, N = M + 1 := ⟨N - 1, by omega⟩
    have hol : o < ar.length := by omega
    have h2 := hw.2.2.1 o hol
    have hp := pw_le hw.1.2 h2
    have ab1 := addByte_eq (F := F) (a := 3) (v := 59) ht (by show _ < 205; omega) (by decide)
    rw [show wand 59 255 = 59 by decide] at ab1
    have tp1 := TP_push (v := 59) ht (show (3 : Nat) ≠ 4 by decide)
    have hr1 : RepC (psh h 3 1 4 t.length 59) A n ar tb := RepC_keep (fun i k hi => psh_off (by omega) (by omega)) hr
    have hltr : wand (ltr (ar.getD o 0)) 255 = ltr (ar.getD o 0) := by
      have : ar.getD o 0 = 0 ∨ ar.getD o 0 = 1 ∨ ar.getD o 0 = 2 := by omega
      rcases this with e | e | e <;> rw [e] <;> decide
    have ab2 := addByte_eq (F := F) (a := 3) (v := ltr (ar.getD o 0)) tp1 (by show _ < 205; simp only [List.length_append, List.length_cons, List.length_nil]; omega) (by decide)
    rw [hltr] at ab2
    have tp2 := TP_push (v := ltr (ar.getD o 0)) tp1 (show (3 : Nat) ≠ 4 by decide)
    have hr2 : RepC (psh (psh h 3 1 4 t.length 59) 3 1 4 (t ++ [59]).length (ltr (ar.getD o 0))) A n ar tb := RepC_keep (fun i k hi => psh_off (by omega) (by omega)) hr1
    generalize hg1 : psh h 3 1 4 t.length 59 = g1 at ab1 tp1 hr1 ab2 tp2 hr2
    generalize hg2 : psh g1 3 1 4 (t ++ [59]).length (ltr (ar.getD o 0)) = g2 at ab2 tp2 hr2
    obtain ⟨g3, y1, y2, y3⟩ := cTe2 (F := F) hA hk hw hol (k := fun x105_2 h => LX0_write_18 F A 3 k N (wr (x105_2 + 1)) h) (pw n (ar.getD o 0)) 0 F g2 _ (by omega) (by omega) (by simp only [List.length_append, List.length_cons, List.length_nil]; omega) tp2 hr2
    have hr3 : RepC g3 A n ar tb := RepC_keep (fun i k hi => y3 _ _ (by omega) (by omega)) hr2
    obtain ⟨h', x1, x2, x3⟩ := ih (o + 1) N g3 _ (by omega) (by omega) (by simp only [List.length_append, List.length_cons, List.length_nil, cls_len]; omega) y2 hr3
    refine ⟨h', ?_, ?_, fun c j c1 c2 => by rw [x3 c j c1 c2, y3 c j c1 c2, ← hg2, psh_off c1 c2, ← hg1, psh_off c1 c2]⟩
    · rw [LX0_write_18]
      simp only [zgf, zjn, zlet]
      have er : ∀ {h : HF} {f : Int → RO}, RepC h A n ar tb → zrd h (A + 1) (o : Int) f = f ((ar.getD o 0 : Nat) : Int) := fun hr => by rw [zrd_ok (a := A + 1) ⟨by omega, by rw [k1]; omega⟩, Int.toNat_natCast, hr.2.2.2.1 o hol]
      have tail : (zbd (fX1_addByte F 3 (ltr (ar.getD o 0)) g1) fun _ h => zrd h (A + 2) (o : Int) fun x7 => LX0_write_74 F A 3 (o : Int) (fun x105_2 h => LX0_write_18 F A 3 k N (wr (x105_2 + 1)) h) F x7 h) = k h' := by
        rw [ab2, zbd_some, zrd_ok (a := A + 2) ⟨by omega, by rw [k2]; omega⟩, Int.toNat_natCast, hr2.2.2.2.2.1 o (by omega)]
        refine y1.trans ?_
        show LX0_write_18 F A 3 k N (wr ((o : Int) + 1)) g3 = _
        rw [wr_s (by omega)]
        exact x1
      rw [hr.2.1, if_pos (by omega), ab1, zbd_some, er hr1, er hr1]
      unfold ltr at tail
      by_cases q0 : ar.getD o 0 = 0
      · rw [if_pos q0] at tail
        rw [if_pos (by omega)]
        exact tail
      · rw [if_neg q0] at tail
        rw [if_neg (by omega)]
        by_cases q1 : ar.getD o 0 = 1
        · rw [if_pos q1] at tail
          rw [if_pos (by omega)]
          exact tail
        · rw [if_neg q1] at tail
          rw [if_neg (by omega)]
          exact tail
    · simp only [opl]
      simpa using x2
theorem mTe2 (hd : d < 10) (hw : WF n ar tb) {o : Nat} (ho : o < ar.length) {k : Int → HF → RO} : ∀ (m i N : Nat) (h : HF) (t : List Int), i + m = pw n (ar.getD o 0) → m + 1 ≤ N → t.length + m ≤ 205 → TP h 181 4 183 t → RepM h 184 185 186 187 d n ar tb → ∃ h', LX12_tell_91 F 181 (d : Int) (o : Int) ((ar.getD o 0 : Nat) : Int) k N (i : Int) h = k (o : Int) h' ∧ TP h' 181 4 183 (t ++ cls tb o i m) ∧ ∀ c j, c ≠ 183 → (c ≠ 181 ∨ j ≠ 4) → h' c j = h c j := by
  have hl := hw.2.1
  have h2 := hw.2.2.1 o ho
  have hp := pw_le hw.1.2 h2
  intro m
  induction m with
  | zero =>
    intro i N h t hi hN hl1 ht hr
    obtain ⟨N, rfl⟩ : ∃ M, N = M + 1 := ⟨N - 1, by omega⟩
    rw [LX12_tell_91, msz hd hr, power_eq hw.1.2 h2, zbd_some, if_neg (by omega)]
    exact ⟨h, rfl, by simp only [cls, List.append_nil]; exact ht, fun _ _ _ _ => rfl⟩
  | succ m ih =>
    intro i N h t hi hN hl1 ht hr
    obtain ⟨N, rfl⟩ : ∃ M, N = M + 1 := ⟨N - 1, by omega⟩
    have e6 := hr.2.2.2 o ho i (by omega)
    have hb := hw.2.2.2 o ho i (by omega)
    have hn := hw.1.2
    have ab := say_eq (F := F) (v := 48 + tb o i) ht (by omega)
    have tp := TP_push (v := 48 + tb o i) ht (show (181 : Nat) ≠ 183 by decide)
    have hr' : RepM (psh h 181 4 183 t.length (48 + tb o i)) 184 185 186 187 d n ar tb := RepM_keep (fun k => ⟨psh_off (by omega) (by omega), psh_off (by omega) (by omega), psh_off (by omega) (by omega), psh_off (by omega) (by omega)⟩) hr
    obtain ⟨h', x1, x2, x3⟩ := ih (i + 1) N _ _ (by omega) (by omega) (by simp only [List.length_append, List.length_cons, List.length_nil]; omega) tp hr'
    refine ⟨h', ?_, ?_, fun c j c1 c2 => by rw [x3 c j c1 c2, psh_off c1 c2]⟩
    · rw [LX12_tell_91, msz hd hr, power_eq hw.1.2 h2, zbd_some, if_pos (by omega), wr_id (x := 196 * (d : Int)) ⟨by omega, by omega⟩, wr_id (x := 49 * (o : Int)) ⟨by omega, by omega⟩, wr_id (x := 196 * (d : Int) + 49 * (o : Int)) ⟨by omega, by omega⟩, wr_id (x := 196 * (d : Int) + 49 * (o : Int) + (i : Int)) ⟨by omega, by omega⟩, zrd_ok (a := 181 + 6) ⟨by omega, by show _ < ((1960 : Nat) : Int); omega⟩, show (196 * (d : Int) + 49 * (o : Int) + (i : Int)).toNat = 196 * d + 49 * o + i by omega, show h (181 + 6) (196 * d + 49 * o + i) = tb o i from e6, wr_id ⟨by omega, by omega⟩, ab, zbd_some]
      simp only [zlet]
      rw [wr_s (by omega)]
      exact x1
    · simp only [cls]
      simpa using x2
theorem mTe1 (hF : 60 ≤ F) (hd : d < 10) (hw : WF n ar tb) {k : HF → RO} : ∀ (m o N : Nat) (h : HF) (t : List Int), o + m = ar.length → m + 1 ≤ N → t.length + 51 * m ≤ 205 → TP h 181 4 183 t → RepM h 184 185 186 187 d n ar tb → ∃ h', LX12_tell_37 F 181 (d : Int) k N (o : Int) h = k h' ∧ TP h' 181 4 183 (t ++ opl tb n ar o m) ∧ ∀ c j, c ≠ 183 → (c ≠ 181 ∨ j ≠ 4) → h' c j = h c j := by
  have hl := hw.2.1
  intro m
  induction m with
  | zero =>
    intro o N h t ho hN hl1 ht hr
    obtain ⟨N, rfl⟩ : ∃ M, N = M + 1 := ⟨N - 1, by omega⟩
    rw [LX12_tell_37, mops hd hr, if_neg (by omega)]
    exact ⟨h, rfl, by simp only [opl, List.append_nil]; exact ht, fun _ _ _ _ => rfl⟩
  | succ m ih =>
    intro o N h t ho hN hl1 ht hr
    obtain ⟨N, rfl⟩ : ∃ M, N = M + 1 := ⟨N - 1, by omega⟩
    have hol : o < ar.length := by omega
    have h2 := hw.2.2.1 o hol
    have hp := pw_le hw.1.2 h2
    have keepM : ∀ {h : HF} {t : List Int} {v : Int}, RepM h 184 185 186 187 d n ar tb → RepM (psh h 181 4 183 t.length v) 184 185 186 187 d n ar tb := fun hr => RepM_keep (fun k => ⟨psh_off (by omega) (by omega), psh_off (by omega) (by omega), psh_off (by omega) (by omega), psh_off (by omega) (by omega)⟩) hr
    have ab1 := say_eq (F := F) (v := 59) ht (by omega)
    have tp1 := TP_push (v := 59) ht (show (181 : Nat) ≠ 183 by decide)
    have hr1 := keepM (t := t) (v := 59) hr
    have ab2 := say_eq (F := F) (v := ltr (ar.getD o 0)) tp1 (by simp only [List.length_append, List.length_cons, List.length_nil]; omega)
    have tp2 := TP_push (v := ltr (ar.getD o 0)) tp1 (show (181 : Nat) ≠ 183 by decide)
    have hr2 := keepM (t := t ++ [59]) (v := ltr (ar.getD o 0)) hr1
    generalize hg1 : psh h 181 4 183 t.length 59 = g1 at ab1 tp1 hr1 ab2 tp2 hr2
    generalize hg2 : psh g1 181 4 183 (t ++ [59]).length (ltr (ar.getD o 0)) = g2 at ab2 tp2 hr2
    obtain ⟨g3, y1, y2, y3⟩ := mTe2 (F := F) hd hw hol (k := fun x138_3 h => LX12_tell_37 F 181 (d : Int) k N (wr (x138_3 + 1)) h) (pw n (ar.getD o 0)) 0 F g2 _ (by omega) (by omega) (by simp only [List.length_append, List.length_cons, List.length_nil]; omega) tp2 hr2
    have hr3 : RepM g3 184 185 186 187 d n ar tb := RepM_keep (fun k => ⟨y3 _ _ (by omega) (by omega), y3 _ _ (by omega) (by omega), y3 _ _ (by omega) (by omega), y3 _ _ (by omega) (by omega)⟩) hr2
    obtain ⟨h', x1, x2, x3⟩ := ih (o + 1) N g3 _ (by omega) (by omega) (by simp only [List.length_append, List.length_cons, List.length_nil, cls_len]; omega) y2 hr3
    refine ⟨h', ?_, ?_, fun c j c1 c2 => by rw [x3 c j c1 c2, y3 c j c1 c2, ← hg2, psh_off c1 c2, ← hg1, psh_off c1 c2]⟩
    · rw [LX12_tell_37, mops hd hr, if_pos (by omega), marity_eq hd hw hr hol, zbd_some, ab1, zbd_some]
      simp only [zjn, zlet]
      have tail : (zbd (fX12_say F 181 (ltr (ar.getD o 0)) g1) fun _ h => LX12_tell_91 F 181 (d : Int) (o : Int) ((ar.getD o 0 : Nat) : Int) (fun x138_3 h => LX12_tell_37 F 181 (d : Int) k N (wr (x138_3 + 1)) h) F 0 h) = k h' := by
        rw [ab2, zbd_some]
        refine y1.trans ?_
        show LX12_tell_37 F 181 (d : Int) k N (wr ((o : Int) + 1)) g3 = _
        rw [wr_s (by omega)]
        exact x1
      unfold ltr at tail
      by_cases q0 : ar.getD o 0 = 0
      · rw [if_pos q0] at tail
        rw [if_pos (by omega)]
        exact tail
      · rw [if_neg q0] at tail
        rw [if_neg (by omega)]
        by_cases q1 : ar.getD o 0 = 1
        · rw [if_pos q1] at tail
          rw [if_pos (by omega)]
          exact tail
        · rw [if_neg q1] at tail
          rw [if_neg (by omega)]
          exact tail
    · simp only [opl]
      simpa using x2
end TE
theorem ps_tell {I5 I6 : HF → Prop} {F : Nat} (hF : 200 ≤ F) : PS_tell F (InvP I4d I5 I6) := by
  intro h a1 hI _
  have hI' := Inv_thrown hI
  have hD : ∀ d, d < 8 → DR h d := fun d hd => I4d_get hI.2.2.2.1 hd
  unfold fX11_tell fX12_tell fX0_write
  simp only [zjn, zpf, zgf]
  by_cases q : rfs h a1 = 0
  · obtain ⟨d, n, ar, tb, rfl, hd, hw, hc, hm⟩ := held hD q
    have hn := hw.1
    have hl := hw.2.1
    have hol := opl_len (tb := tb) hn.2 hw.2.2.1 ar.length 0 (by omega)
    obtain ⟨⟨t, htc, htm, htl, htb⟩, _, h3, h4, h5, h6⟩ := hI
    -- the class
    have t0 : TP (stp h 3 1 0) 3 1 4 [] := ⟨by rw [stp_eq]; rfl, fun i hi => absurd hi (by simp)⟩
    have ab := addByte_eq (F := F) (a := 3) (v := ((48 + n : Nat) : Int)) t0 (by decide) (by decide)
    rw [wand_byte (by omega)] at ab
    have tp := TP_push (v := ((48 + n : Nat) : Int)) t0 (show (3 : Nat) ≠ 4 by decide)
    have hc1 : RepC (psh (stp h 3 1 0) 3 1 4 ([] : List Int).length ((48 + n : Nat) : Int)) (117 + 4 * d) n ar tb := RepC_keep (fun i k hi => by rw [psh_off (by omega) (by omega), stp_ne (by omega)]) hc
    obtain ⟨g, x1, x2, x3⟩ := cTe1 (F := F) (by omega) (show 117 ≤ 117 + 4 * d by omega) (kt_drw d hd) hw (k := fun h => some (0, h)) ar.length 0 F _ _ (by omega) (by omega) (by simp only [List.length_append, List.length_cons, List.length_nil]; omega) tp hc1
    have gh : ∀ c j, c ≠ 4 → (c ≠ 3 ∨ j ≠ 1) → g c j = h c j := fun c j y z => by rw [x3 c j y z, psh_off y z, stp_ne z]
    -- the reference
    have t0m : TP (stp (stp g 181 0 0) 181 4 0) 181 4 183 [] := ⟨by rw [stp_eq]; rfl, fun i hi => absurd hi (by simp)⟩
    have abm := say_eq (F := F) (v := ((48 + n : Nat) : Int)) t0m (by decide)
    have tpm := TP_push (v := ((48 + n : Nat) : Int)) t0m (show (181 : Nat) ≠ 183 by decide)
    have hmg : RepM (stp (stp g 181 0 0) 181 4 0) 184 185 186 187 d n ar tb := RepM_keep (fun k => ⟨by rw [stp_ne (by omega), stp_ne (by omega), gh _ _ (by omega) (by omega)], by rw [stp_ne (by omega), stp_ne (by omega), gh _ _ (by omega) (by omega)], by rw [stp_ne (by omega), stp_ne (by omega), gh _ _ (by omega) (by omega)], by rw [stp_ne (by omega), stp_ne (by omega), gh _ _ (by omega) (by omega)]⟩) hm
    have hmp : RepM (psh (stp (stp g 181 0 0) 181 4 0) 181 4 183 ([] : List Int).length ((48 + n : Nat) : Int)) 184 185 186 187 d n ar tb := RepM_keep (fun k => ⟨psh_off (by omega) (by omega), psh_off (by omega) (by omega), psh_off (by omega) (by omega), psh_off (by omega) (by omega)⟩) hmg
    obtain ⟨g4, y1, y2, y3⟩ := mTe1 (F := F) (by omega) (show d < 10 by omega) hw (k := fun h => some (h 181 4, h)) ar.length 0 F _ _ (by omega) (by omega) (by simp only [List.length_append, List.length_cons, List.length_nil]; omega) tpm hmp
    have g4g : ∀ c j, c ≠ 183 → (c ≠ 181 ∨ (j ≠ 4 ∧ j ≠ 0)) → g4 c j = g c j := fun c j y z => by rw [y3 c j y (by omega), psh_off y (by omega), stp_ne (by omega), stp_ne (by omega)]
    have g4h : ∀ c j, c ≠ 183 → (c ≠ 181 ∨ (j ≠ 4 ∧ j ≠ 0)) → c ≠ 4 → (c ≠ 3 ∨ j ≠ 1) → g4 c j = h c j := fun c j y z w v => by rw [g4g c j y z, gh c j w v]
    refine ⟨g 3 1, g, g4, ?_, ?_, ⟨t, TP_keep htc (g4h _ _ (by decide) (by decide) (by decide) (by decide)) (fun i => g4h _ _ (by decide) (by omega) (by decide) (by omega)), TP_keep htm (g4h _ _ (by decide) (by decide) (by decide) (by decide)) (fun i => g4h _ _ (by decide) (by omega) (by decide) (by omega)), htl, htb⟩, ⟨_, TP_keep x2 (g4g _ _ (by decide) (by decide)) (fun i => g4g _ _ (by decide) (by omega)), y2, ?_⟩, ⟨?_, ?_⟩, Inv_keep h4 h5 h6 (fun c k hq => g4h c k (by omega) (by omega) (by omega) (by omega))⟩
    · rw [refuse_c hD, zbd_some, if_pos q, drw_at hd]
      rw [stp_ne (show (117 + 4 * d) ≠ (0 + 3) ∨ (0 : Nat) ≠ 1 from Or.inl (by omega)), hc.1, wr_id ⟨by omega, by omega⟩, show (48 : Int) + (n : Int) = ((48 + n : Nat) : Int) by omega]
      rw [show fX1_addByte F (0 + 3) ((48 + n : Nat) : Int) (stp h (0 + 3) 1 0) = _ from ab, zbd_some]
      exact congrArg (fun z => zbd z fun _ h => some (h 3 1, h)) x1
    · rw [refuse_m, zbd_some, if_pos ((rfs_eq (fun d' hd' => by rw [stp_ne (by omega), gh _ _ (by omega) (by omega)])).trans q), msz (by omega) hmg, wr_id ⟨by omega, by omega⟩, show (48 : Int) + (n : Int) = ((48 + n : Nat) : Int) by omega, abm, zbd_some]
      refine y1.trans ?_
      rw [y2.1, x2.1]
    · simp only [List.length_append, List.length_cons, List.length_nil]; omega
    · rw [g4h 86 0 (by decide) (by decide) (by decide) (by decide), g4h 181 5 (by decide) (by decide) (by decide) (by decide)]; exact h3.1
    · rw [g4h 86 0 (by decide) (by decide) (by decide) (by decide)]; exact h3.2
  · refine ⟨rfs h a1, h, stp h 181 0 0, ?_, ?_, hI'⟩
    · rw [refuse_c hD, zbd_some, if_neg q]
    · rw [refuse_m, zbd_some, rfs_thrown, if_neg q]
