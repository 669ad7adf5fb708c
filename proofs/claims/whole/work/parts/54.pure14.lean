/-! keep of the class: the history object is cell 10, its algebras 13 + 4 i -/
theorem kt_his : ∀ i, i < 16 → kt (13 + 4 * i) = 0 + 3 := by decide
theorem ckeep {F A ol kp m t : Nat} {x : Int} {h : HF} (hA : kt A = 0 + 3) (hA2 : 117 ≤ A) (h2 : h 10 2 = (ol : Int)) (ho : ol < 16) (h3 : h 10 3 = (kp : Int)) (hk : kp ≤ 16) (m1 : h A 1 = (m : Int)) (hm : m ≤ 4) (mt : h (A + 2) m = (t : Int)) (ht : t ≤ 196) : ∃ h', fX3_keep F 10 x A h = some (0, h') ∧ (∀ c' k', (c' < 12 ∨ 76 < c') → (c' ≠ 10 ∨ (k' ≠ 2 ∧ k' ≠ 3)) → h' c' k' = h c' k') ∧ h' 10 3 = ((min (kp + 1) 16 : Nat) : Int) ∧ h' 10 2 = ((if kp < 16 then ol else (ol + 1) % 16 : Nat) : Int) ∧
    (let s := (ol + kp) % 16
     h' 12 s = x ∧ h' (13 + 4 * s) 0 = h A 0 ∧ h' (13 + 4 * s) 1 = h A 1 ∧ h' (13 + 4 * s) 2 = h A 2 ∧ (∀ o, o < m → h' (13 + 4 * s + 1) o = h (A + 1) o) ∧ (∀ o, o ≤ m → h' (13 + 4 * s + 2) o = h (A + 2) o) ∧ ∀ i, i < t → h' (13 + 4 * s + 3) i = h (A + 3) i) ∧
    ∀ j, j < 16 → j ≠ (ol + kp) % 16 → h' 12 j = h 12 j ∧ ∀ i, i < 4 → h' (13 + 4 * j + i) = h (13 + 4 * j + i) := by
  have hs : (ol + kp) % 16 < 16 := Nat.mod_lt _ (by decide)
  obtain ⟨g, e, fo, f0, f1, f2, f3, f4, f5⟩ := copyFrom_eq (F := F) (A := 13 + 4 * ((ol + kp) % 16)) (B := A) (h := h) (kt_his _ hs) hA (by omega) m1 hm mt ht
  generalize hss : (ol + kp) % 16 = s at hs e fo f0 f1 f2 f3 f4 f5 ⊢
  have g10 : ∀ k, stp g 12 s x 10 k = h 10 k := fun k => by rw [stp_ne (Or.inl (by decide)), fo 10 (by omega) (by omega) (by omega) (by omega)]
  have red : fX3_keep F 10 x A h = (if (kp : Int) < 16 then some (0, stp (stp g 12 s x) 10 3 (wr ((kp : Int) + 1))) else some (0, stp (stp g 12 s x) 10 2 (wrem (wr ((ol : Int) + 1)) 16))) := by
    unfold fX3_keep
    simp only [zgf, zlet, zjn, zpf]
    rw [zdv_ok (by decide), h2, h3, wr_id ⟨by omega, by omega⟩, show (ol : Int) + (kp : Int) = ((ol + kp : Nat) : Int) by omega, show (16 : Int) = ((16 : Nat) : Int) from rfl, wrem_N (by omega), hss, zrs_ok (a := 10 + 1) ⟨by omega, by show _ < ((16 : Nat) : Int); omega⟩, Int.toNat_natCast, show zsa (10 + 1) s = 13 + 4 * s from rfl, e, zbd_some, zwr_ok (a := 10 + 2) ⟨by omega, by show _ < ((16 : Nat) : Int); omega⟩, Int.toNat_natCast, show (10 + 2 : Nat) = 12 from rfl, g10 3, g10 2, h2, h3]
    by_cases q : (kp : Int) < ((16 : Nat) : Int)
    · rw [if_pos q, if_pos q]
    · rw [if_neg q, if_neg q, zdv_ok (by decide)]
  refine ⟨if kp < 16 then stp (stp g 12 s x) 10 3 ((kp : Int) + 1) else stp (stp g 12 s x) 10 2 (((ol + 1) % 16 : Nat) : Int), ?_, ?_, ?_, ?_, ?_, ?_⟩
  · rw [red]
    by_cases q : kp < 16
    · rw [if_pos (by omega), if_pos q, wr_id ⟨by omega, by omega⟩]
    · rw [if_neg (by omega), if_neg q, wr_id ⟨by omega, by omega⟩, show (ol : Int) + 1 = ((ol + 1 : Nat) : Int) by omega, show (16 : Int) = ((16 : Nat) : Int) from rfl, wrem_N (by omega)]
  · intro c' k' a b
    by_cases q : kp < 16
    · rw [if_pos q, stp_ne (by omega), stp_ne (by omega), fo c' (by omega) (by omega) (by omega) (by omega)]
    · rw [if_neg q, stp_ne (by omega), stp_ne (by omega), fo c' (by omega) (by omega) (by omega) (by omega)]
  · by_cases q : kp < 16
    · rw [if_pos q, stp_eq]; omega
    · rw [if_neg q, stp_ne (Or.inr (by decide)), g10 3, h3]; omega
  · by_cases q : kp < 16
    · rw [if_pos q, if_pos q, stp_ne (Or.inr (by decide)), g10 2, h2]
    · rw [if_neg q, if_neg q, stp_eq]
  · have k1 : ∀ c' k', c' ≠ 10 → (if kp < 16 then stp (stp g 12 s x) 10 3 ((kp : Int) + 1) else stp (stp g 12 s x) 10 2 (((ol + 1) % 16 : Nat) : Int)) c' k' = stp g 12 s x c' k' := fun c' k' a => by
      by_cases q : kp < 16
      · rw [if_pos q, stp_ne (Or.inl a)]
      · rw [if_neg q, stp_ne (Or.inl a)]
    refine ⟨?_, ?_, ?_, ?_, fun o ho' => ?_, fun o ho' => ?_, fun i hi => ?_⟩
    · rw [k1 12 s (by decide), stp_eq]
    · rw [k1 _ _ (by omega), stp_ne (Or.inl (by omega)), f0]
    · rw [k1 _ _ (by omega), stp_ne (Or.inl (by omega)), f1]
    · rw [k1 _ _ (by omega), stp_ne (Or.inl (by omega)), f2]
    · rw [k1 _ _ (by omega), stp_ne (Or.inl (by omega)), f3 o ho']
    · rw [k1 _ _ (by omega), stp_ne (Or.inl (by omega)), f4 o ho']
    · rw [k1 _ _ (by omega), stp_ne (Or.inl (by omega)), f5 i hi]
  · intro j hj hjs
    have k1 : ∀ c' k', c' ≠ 10 → (if kp < 16 then stp (stp g 12 s x) 10 3 ((kp : Int) + 1) else stp (stp g 12 s x) 10 2 (((ol + 1) % 16 : Nat) : Int)) c' k' = stp g 12 s x c' k' := fun c' k' a => by
      by_cases q : kp < 16
      · rw [if_pos q, stp_ne (Or.inl a)]
      · rw [if_neg q, stp_ne (Or.inl a)]
    refine ⟨?_, fun i hi => ?_⟩
    · rw [k1 12 j (by decide), stp_ne (Or.inr hjs), fo 12 (by omega) (by omega) (by omega) (by omega)]
    · funext k
      rw [k1 _ _ (by omega), stp_ne (Or.inl (by omega)), fo _ (by omega) (by omega) (by omega) (by omega)]
