/-! laws: terms, both sides: the whole; sames -/
/-- the reference's term behind its first test -/
def trmB (F D : Nat) (a1 : Int) (h : HF) : RO :=
  if a1 = 8 then (
    zbd (fX12_wrong F 181 3 h) fun _ h =>
    some (0, h)
  ) else (
    zrd h (181 + 18) 4 fun x5 =>
    if x5 = 80 then (
      zbd (fX12_wrong F 181 4 h) fun _ h =>
      some (0, h)
    ) else (
      zrd h (181 + 18) 4 fun x7 =>
      zlet (wr (320 + x7)) fun x8 =>
      zrd h (181 + 18) 4 fun x9 =>
      zgf h 181 34 fun x10 =>
      zwr h (181 + 17) x9 x10 fun h =>
      zrd h (181 + 18) 4 fun x11 =>
      zwr h (181 + 18) 4 (wr (x11 + 1)) fun h =>
      zgf h 181 33 fun x12 =>
      zbd (fX12_isVariable F x12 h) fun r13 h =>
      zjn (fun (x139_2 : Int) (x139_3 : Int) (y139_0 : Int) (y139_1 : Int) (y139_2 : Nat) (h : HF) => (
        zwr h y139_2 y139_1 y139_0 fun h =>
        zwr h (181 + 14) x139_2 0 fun h =>
        zbd (fX12_nextSign F 181 h) fun _ h =>
        zjn (fun (x219_2 : Int) (h : HF) => (
          some (wr (x219_2 - 320), h)
        )) fun j219 =>
        if x139_3 = 0 then (
          zbd (fX12_takes F 181 40 h) fun r15 h =>
          if r15 = 0 then (
            j219 x139_2 h
          ) else (
            zbd ((fX12_term F D) 181 (wr (a1 + 1)) h) fun r16 h =>
            zwr h (181 + 15) x139_2 r16 fun h =>
            zwr h (181 + 14) x139_2 1 fun h =>
            zbd (fX12_takes F 181 44 h) fun r17 h =>
            zjn (fun (x213_2 : Int) (h : HF) => (
              zbd (fX12_must F 181 41 h) fun _ h =>
              j219 x213_2 h
            )) fun j213 =>
            if r17 = 0 then (
              j213 x139_2 h
            ) else (
              zbd ((fX12_term F D) 181 (wr (a1 + 1)) h) fun r19 h =>
              zwr h (181 + 16) x139_2 r19 fun h =>
              zwr h (181 + 14) x139_2 2 fun h =>
              j213 x139_2 h
            )
          )
        ) else (
          j219 x139_2 h
        )
      )) fun j139 =>
      if r13 = 0 then (
        zgf h 181 33 fun x20 =>
        j139 x8 r13 (wr ((wr (3 + x20)) - 97)) x8 (181 + 13) h
      ) else (
        zgf h 181 33 fun x21 =>
        j139 x8 r13 (wr (x21 - 120)) x8 (181 + 13) h
      )
    )
  )
theorem term_go {F D : Nat} {a1 : Int} {h : HF} (h0 : h 181 35 = 0) (hs : ¬ tsg (h 181 33) = -1) : fX12_term F (D + 1) 181 a1 h = trmB F D a1 h := by
  obtain ⟨s, es, s7, sv, sx, sy⟩ := tsg_N hs
  rw [fX12_term, zgf_eq, if_pos h0, zgf_eq, isVar_eq, zbd_some, zjn_eq]
  by_cases q : s < 3
  · rw [bl_pos (sv.mpr q), if_neg (by decide)]
    rfl
  · rw [bl_neg (fun z => q (sv.mp z)), if_pos rfl, zgf_eq, isLet_eq, zbd_some, bl_pos (by have := sy q; omega), if_neg (by decide)]
    rfl
theorem term_no {F D : Nat} {a1 : Int} {h : HF} (h0 : h 181 35 = 0) (hs : tsg (h 181 33) = -1) : fX12_term F (D + 1) 181 a1 h = zbd (fX12_wrong F 181 1 h) fun _ h => some (0, h) := by
  have hv : ¬ (120 ≤ h 181 33 ∧ h 181 33 ≤ 122) := fun z => by unfold tsg at hs; rw [if_pos z] at hs; omega
  have hl : ¬ (97 ≤ h 181 33 ∧ h 181 33 ≤ 100) := fun z => by unfold tsg at hs; rw [if_neg hv, if_pos z] at hs; omega
  rw [fX12_term, zgf_eq, if_pos h0, zgf_eq, isVar_eq, zbd_some, zjn_eq, bl_neg hv, if_pos rfl, zgf_eq, isLet_eq, zbd_some, bl_neg hl, if_pos rfl]
section TS
variable {F : Nat} {t : List Int} {m S nl lo : Nat}
theorem simT (hF : 402 ≤ F) (hT : HT t m) (hS : LCell S) (hn : nl < 6) : ∀ (D w a T : Nat) (sg mn se pc : Nat → Nat) (hc hm : HF), 9 ≤ D + w → w ≤ 8 → RD t m S hc hm a → T2 S nl lo hc hm T sg mn se pc → OkT t m S nl lo w T sg mn se hc hm (fX10_readTerm F D 86 (w : Int) hc) (fX12_term F D 181 (w : Int) hm) ∨ BadT S nl T hc hm (fX10_readTerm F D 86 (w : Int) hc) (fX12_term F D 181 (w : Int) hm) := by
  have hf := LCell_far hS
  intro D
  induction D with
  | zero => intro w a T sg mn se pc hc hm h1 h2; omega
  | succ D ih =>
    intro w a T sg mn se pc hc hm h9 hw8 hR h2
    have hR0 := hR
    have h20 := h2
    obtain ⟨⟨c1, c2, c3, c4, c5⟩, m1, m2, m3, m4, m5, m6⟩ := hR
    obtain ⟨⟨b1, b2, b3, b4, b5⟩, -, -⟩ := h2
    have hm4 := hT.2.1
    have r4 : ∀ (h : HF) (f : Int → RO), zrd h (181 + 18) 4 f = f (h 199 4) := fun h f => rdm18 (i := 4) (by omega)
    -- a fault here
    have bad : ∀ (k : Nat) (x y : RO), 1 ≤ k ∧ k ≤ 4 → x = (zbd (fX10_failHere F 86 (k : Int) hc) fun r h => zrz r h) → y = (zbd (fX12_wrong F 181 (k : Int) hm) fun _ h => some (0, h)) → OkT t m S nl lo w T sg mn se hc hm x y ∨ BadT S nl T hc hm x y := fun k x y hk ex ey => by
      obtain ⟨hc', hm', y1, y2, y3, y4, y5⟩ := fail2 (F := F) (k := k) hT hk hR0
      rw [y1, zbd_some] at ex
      rw [y2, zbd_some] at ey
      exact Or.inr ⟨hc', hm', 0, ex, ey, y3, fun c i z1 z2 z3 z4 => y4 _ _ (by omega), fun c i z1 z2 z3 z4 => y5 _ _ (by omega)⟩
    have eC : fX10_readTerm F (D + 1) 86 (w : Int) hc = if tsg (sn t a) = -1 then (zbd (fX10_failHere F 86 1 hc) fun r h => zrz r h) else if (w : Int) < 8 then (if (T : Int) < 80 then (zbd (fX4_addTerm F S (tsg (sn t a)) hc) fun r11 h => zgf h 86 3 fun x12 => zrd h (86 + 2) x12 fun x13 => zwr h (86 + 3) r11 x13 fun h => zgf h 86 3 fun x14 => zpf h 86 3 (wr (x14 + 1)) fun h => if tsg (sn t a) < 3 then zrz 1 h else zbd (fX10_takes F 86 40 h) fun r15 h => if r15 = 0 then zrz 1 h else zbd (fX10_readArguments F (fX10_readTerm F D) 86 r11 (wr ((w : Int) + 1)) h) fun r16 h => if r16 = 0 then zrz 0 h else zrz 1 h) else (zbd (fX10_failHere F 86 4 hc) fun r h => zrz r h)) else (zbd (fX10_failHere F 86 3 hc) fun r h => zrz r h) := by
      rw [fX10_readTerm, zgf_eq, c3, rd87 (by omega), (c1 a c4).1, termSign_eq, zbd_some, zgd_at c2, zgf_eq, zjn_eq, b2, if_pos (show (nl : Int) < 6 by omega), zgd_at c2, zgf_eq, b1, zgd_at c2]
      rfl
    by_cases q0 : tsg (sn t a) = -1
    · rw [eC, if_pos q0, term_no m6 (by rw [m3]; exact q0)]
      exact bad 1 _ _ (by omega) rfl rfl
    · obtain ⟨s, es, s7, sv, sx, sy⟩ := tsg_N q0
      rw [eC, if_neg q0, term_go m6 (by rw [m3]; exact q0)]
      unfold trmB
      by_cases q8 : w = 8
      · subst q8
        rw [if_neg (show ¬ ((8 : Nat) : Int) < 8 by omega), if_pos (show ((8 : Nat) : Int) = 8 by omega)]
        exact bad 3 _ _ (by omega) rfl rfl
      · rw [if_pos (show (w : Int) < 8 by omega), if_neg (show ¬ (w : Int) = 8 by omega), r4, b3]
        by_cases qT : T = 80
        · rw [if_neg (show ¬ (T : Int) < 80 by omega), if_pos (show (T : Int) = 80 by omega)]
          exact bad 4 _ _ (by omega) rfl rfl
        · rw [if_pos (show (T : Int) < 80 by omega), if_neg (show ¬ (T : Int) = 80 by omega), es]
          obtain ⟨hc3, hm5, R3, B3, F3, F5, -, K1, K2⟩ := add2 (F := F) hF hT hS hn (show T < 80 by omega) es hR0 h20
          rw [K1, K2, wr_s (by omega)]
          simp only [zjn_eq]
          have ew : wr (((320 + T : Nat) : Int) - 320) = (T : Int) := by rw [wr_id ⟨by omega, by omega⟩]; omega
          have e8 : 8 - w = (8 - (w + 1)) + 1 := by omega
          have leaf : ∀ (x y : RO) (hc' hm' : HF) (a' : Nat), x = some (1, hc') → y = some ((T : Int), hm') → RD t m S hc' hm' a' → hc' = hc3 → hm' = hm5 → OkT t m S nl lo w T sg mn se hc hm x y ∨ BadT S nl T hc hm x y := fun x y hc' hm' a' ex ey hR' e1 e2 => by
            subst e1; subst e2
            refine Or.inl ⟨hc', hm', a', T + 1, _, _, _, _, ex, ey, hR', B3, ?_, fun j hj => ⟨upF_ne (by omega), upF_ne (by omega), rfl⟩, F3, F5⟩
            rw [e8]
            exact Or.inl ⟨upF_eq, rfl⟩
          by_cases q3 : s < 3
          · rw [if_pos (show (s : Int) < 3 by omega), if_pos q3, if_neg (show ¬ (1 : Int) = 0 by decide), ew]
            exact leaf _ _ hc3 hm5 (a + 1) rfl rfl R3 rfl rfl
          · rw [if_neg (show ¬ (s : Int) < 3 by omega), if_neg q3, if_pos (show (0 : Int) = 0 from rfl)]
            rcases takes2 (F := F) (b := 40) hF hT (by decide) R3 with ⟨_, hm6, x1, x2, x3, x4⟩ | ⟨_, x1, x2⟩
            · rw [x1, x2, zbd_some, zbd_some, if_neg (show ¬ (1 : Int) = 0 by decide), if_neg (show ¬ (1 : Int) = 0 by decide)]
              have B6 : T2 S nl lo (stp hc3 86 3 ((a + 1 + 1 : Nat) : Int)) hm6 (T + 1) (upF sg T s) (upF mn T 0) se (upF pc T (pl t a)) := T2_keep hS (fun c i z => stp_ne (by omega)) (fun c i z => x4 _ _ (by omega)) B3
              have F6 : FtC S nl T hc (stp hc3 86 3 ((a + 1 + 1 : Nat) : Int)) := FtC_tr (Nat.le_refl _) F3 (fun c i z1 z2 z3 z4 => stp_ne (by omega))
              have F7 : FtM T hm hm6 := FtM_tr (Nat.le_refl _) F5 (fun c i z1 z2 z3 z4 => x4 _ _ (by omega))
              generalize stp hc3 86 3 ((a + 1 + 1 : Nat) : Int) = hc6 at x3 B6 F6
              have sa := simA (F := F) (D := D) (w := w) hF hT hS (fun a T sg mn se pc hc hm u v => ih (w + 1) a T sg mn se pc hc hm (by omega) (by omega) u v) (by omega) x3 B6 (by rw [upF_eq]; omega) rfl rfl
              rcases sa with ⟨hc', hm', a', T', sg', mn', se', pc', ex, ey, R', B', tt, ag, G1, G2⟩ | ⟨hc', hm', r, ex, ey, er, G1, G2⟩
              · refine Or.inl ⟨hc', hm', a', T', sg', mn', se', pc', ?_, ey, R', B', tt, fun j hj => ?_, FtC_tr (Nat.le_refl _) F6 G1, FtM_tr (Nat.le_refl _) F7 G2⟩
                · rw [ex, zbd_some, if_neg (show ¬ (1 : Int) = 0 by decide)]; rfl
                · obtain ⟨u1, u2, u3⟩ := ag j hj
                  rw [upF_ne (by omega)] at u1 u2
                  exact ⟨u1, u2, u3⟩
              · refine Or.inr ⟨hc', hm', r, ?_, ey, er, FtC_tr (Nat.le_refl _) F6 G1, FtM_tr (Nat.le_refl _) F7 G2⟩
                rw [ex, zbd_some, if_pos (show (0 : Int) = 0 from rfl)]; rfl
            · rw [x1, x2, zbd_some, zbd_some, if_pos (show (0 : Int) = 0 from rfl), if_pos (show (0 : Int) = 0 from rfl), ew]
              exact leaf _ _ hc3 hm5 (a + 1) rfl rfl R3 rfl rfl
end TS
