/-! the reference goes through all tables -/
section FM
variable {F n i nl ns T : Nat} {ar : List Nat} {sg mn se lf rt lw : Nat → Nat}
def mdB (n : Nat) (ar : List Nat) (nl : Nat) (sg mn se lf rt lw : Nat → Nat) (c : Nat) : Bool := (fbI n ar (TB n ar c) sg mn se lf rt lw nl 0).isNone
/-- what is counted: models, or models that are forms -/
def cnB (n : Nat) (ar : List Nat) (nl : Nat) (sg mn se lf rt lw : Nat → Nat) (u : Bool) (c : Nat) : Bool := mdB n ar nl sg mn se lf rt lw c && (!u || fmB n ar c)
def b1 (b : Bool) : Nat := if b = true then 1 else 0
theorem MLx_off {h h' : HF} {d : Nat} {tb : Nat → Nat → Int} (e : ∀ c k, (184 ≤ c ∧ c ≤ 205) → (c ≠ 187 ∨ k < 1764) → h' c k = h c k) (hr : RepM h' 184 185 186 187 d n ar tb) (hL : LLM h i nl ns T sg mn se lf rt lw) : MLx h' d i n ar tb nl ns T sg mn se lf rt lw := by
  obtain ⟨⟨a1, a2⟩, a3, a4, a5⟩ := hL
  refine ⟨hr, ⟨by rw [e _ _ (by omega) (by omega)]; exact a1, by rw [e _ _ (by omega) (by omega)]; exact a2⟩, fun t ht => ?_, fun k hk => ?_, fun j hj => ?_⟩
  · rw [e 194 _ (by omega) (by omega), e 195 _ (by omega) (by omega), e 196 _ (by omega) (by omega), e 197 _ (by omega) (by omega)]; exact a3 t ht
  · rw [e 200 _ (by omega) (by omega), e 201 _ (by omega) (by omega)]; exact a4 k hk
  · rw [e 203 _ (by omega) (by omega), e 204 _ (by omega) (by omega)]; exact a5 j hj
theorem opI_none {o : Option Nat} : opI o = -1 ↔ o.isNone = true := by
  cases o with
  | none => exact ⟨fun _ => rfl, fun _ => rfl⟩
  | some j => exact ⟨fun h => by have h : (j : Int) = -1 := h; omega, fun h => absurd h (by simp)⟩
theorem fmod_L (hF : 6000 ≤ F) (hn : 1 ≤ n ∧ n ≤ 7) (hl : ar.length ≤ 4) (h2 : ∀ o, o < ar.length → ar.getD o 0 ≤ 2) (hi : i < 4) (hP : LLP nl ns T sg mn se lf rt lw) (hf : fitP ar sg mn T) (hM : n ^ sto n ar ar.length ≤ 60000) {u : Bool} {u3 : Int} {k55 : Int → HF → RO} {k41 : HF → RO} : ∀ (m c N cnt : Nat) (h : HF), c + m = n ^ sto n ar ar.length → 1 ≤ m → m + 1 ≤ N → cnt ≤ c → MLx h 9 i n ar (TB n ar c) nl ns T sg mn se lf rt lw → ∃ h', (∀ x k, (x < 211 ∨ 214 < x) → (x ≠ 181 ∨ (k ≠ 37 ∧ k ≠ 38 ∧ k ≠ 39 ∧ k ≠ 40)) → (x ≠ 187 ∨ k < 1764) → h' x k = h x k) ∧ ((LX12_findModel_6 F 181 (i : Int) (bi u) u3 k55 k41 N (cnt : Int) 1 h = k55 ((cnt + sumF (fun c => b1 (cnB n ar nl sg mn se lf rt lw u c)) m c : Nat) : Int) h' ∧ ∀ k, k < m → cnB n ar nl sg mn se lf rt lw u (c + k) = true → ((cnt + sumF (fun c => b1 (cnB n ar nl sg mn se lf rt lw u c)) k c : Nat) : Int) ≠ u3) ∨ (∃ k, k < m ∧ cnB n ar nl sg mn se lf rt lw u (c + k) = true ∧ ((cnt + sumF (fun c => b1 (cnB n ar nl sg mn se lf rt lw u c)) k c : Nat) : Int) = u3 ∧ LX12_findModel_6 F 181 (i : Int) (bi u) u3 k55 k41 N (cnt : Int) 1 h = k41 h' ∧ RepM h' 184 185 186 187 9 n ar (TB n ar (c + k)))) := by
  intro m
  induction m with
  | zero => intro c N cnt h _ h1; omega
  | succ m ih =>
    intro c N cnt h hc _ hN hcn hX
    obtain ⟨N, rfl⟩ : ∃ M, N = M + 1 := ⟨N - 1, by omega⟩
    have hcM : c < n ^ sto n ar ar.length := by omega
    have hw := TB_WF hn hl h2 hcM
    obtain ⟨h1, x1, x2⟩ := broken_m (F := F) (d := 9) (by omega) (by omega) hi hw hP hf hX
    have x1' : fX12_broken F 181 9 (i : Int) h = some (opI (fbI n ar (TB n ar c) sg mn se lf rt lw nl 0), h1) := x1
    have r1 : RepM h1 184 185 186 187 9 n ar (TB n ar c) := RepM_off (fun x k hx => x2 _ _ (by omega)) hX.1
    obtain ⟨h2', y1, y2⟩ := isLeast_m (F := F) (d := 9) (by omega) (by omega) hw r1
    -- is it counted
    obtain ⟨hb, z1, z2⟩ : ∃ hb : HF, (∀ x k, (x < 211 ∨ 214 < x) → hb x k = h1 x k) ∧ LX12_findModel_6 F 181 (i : Int) (bi u) u3 k55 k41 (N + 1) (cnt : Int) 1 h = (if cnB n ar nl sg mn se lf rt lw u c = true then (if (cnt : Int) = u3 then k41 hb else zbd (fX12_nextTable F 181 hb) fun r2 h => LX12_findModel_6 F 181 (i : Int) (bi u) u3 k55 k41 N ((cnt + 1 : Nat) : Int) r2 h) else zbd (fX12_nextTable F 181 hb) fun r2 h => LX12_findModel_6 F 181 (i : Int) (bi u) u3 k55 k41 N (cnt : Int) r2 h) := by
      have e0 : LX12_findModel_6 F 181 (i : Int) (bi u) u3 k55 k41 (N + 1) (cnt : Int) 1 h = (if opI (fbI n ar (TB n ar c) sg mn se lf rt lw nl 0) = -1 then (if bi u = 0 then (if (cnt : Int) = u3 then k41 h1 else zbd (fX12_nextTable F 181 h1) fun r2 h => LX12_findModel_6 F 181 (i : Int) (bi u) u3 k55 k41 N ((cnt + 1 : Nat) : Int) r2 h) else zbd (fX12_isLeast F 181 9 h1) fun r4 h => if r4 = 0 then (zbd (fX12_nextTable F 181 h) fun r2 h => LX12_findModel_6 F 181 (i : Int) (bi u) u3 k55 k41 N (cnt : Int) r2 h) else (if (cnt : Int) = u3 then k41 h else zbd (fX12_nextTable F 181 h) fun r2 h => LX12_findModel_6 F 181 (i : Int) (bi u) u3 k55 k41 N ((cnt + 1 : Nat) : Int) r2 h)) else zbd (fX12_nextTable F 181 h1) fun r2 h => LX12_findModel_6 F 181 (i : Int) (bi u) u3 k55 k41 N (cnt : Int) r2 h) := by
        rw [LX12_findModel_6, if_neg (by decide), x1', zbd_some, zjn_eq, zjn_eq]
        simp only [zlet_eq, wr_id (x := (cnt : Int) + 1) ⟨by omega, by omega⟩]
        rfl
      rw [e0]
      unfold cnB mdB
      by_cases q : (fbI n ar (TB n ar c) sg mn se lf rt lw nl 0).isNone = true
      · rw [if_pos (opI_none.mpr q), q, Bool.true_and]
        cases u with
        | false => exact ⟨h1, fun _ _ _ => rfl, by rw [if_pos (show bi false = 0 from rfl)]; rfl⟩
        | true =>
          rw [if_neg (by decide)]
          rcases y1 with ⟨w1, w2⟩ | ⟨w1, x, w2, w3⟩
          · have w1' : fX12_isLeast F 181 9 h1 = some (1, h2') := w1
            have fm : fmB n ar c = true := (fmB_iff hn).mpr fun x hx => by
              have := w2 x hx
              have e : wT (TB n ar c) n ar (List.range n) = c := act_id hn hl h2 hcM
              rw [e] at this; exact this
            refine ⟨h2', y2, ?_⟩
            rw [w1', zbd_some, if_neg (by decide), fm]; rfl
          · have w1' : fX12_isLeast F 181 9 h1 = some (0, h2') := w1
            have fm : fmB n ar c = false := by
              cases e : fmB n ar c with
              | false => rfl
              | true =>
                have := (fmB_iff hn).mp e x w2
                have e : wT (TB n ar c) n ar (List.range n) = c := act_id hn hl h2 hcM
                rw [e] at w3
                exact absurd w3 (by unfold act at this; omega)
            refine ⟨h2', y2, ?_⟩
            rw [w1', zbd_some, if_pos rfl, fm]; rfl
      · rw [if_neg (fun w => q (opI_none.mp w))]
        refine ⟨h1, fun _ _ _ => rfl, ?_⟩
        rw [show (fbI n ar (TB n ar c) sg mn se lf rt lw nl 0).isNone = false from Bool.eq_false_iff.mpr q]; rfl
    have rb : RepM hb 184 185 186 187 9 n ar (TB n ar c) := RepM_off (fun x k hx => z1 _ _ (by omega)) r1
    obtain ⟨h3, t1, t2⟩ := nextTable_m (F := F) (by omega) hn hl h2 hcM rb
    have f3 : ∀ x k, (x < 211 ∨ 214 < x) → (x ≠ 181 ∨ (k ≠ 37 ∧ k ≠ 38 ∧ k ≠ 39 ∧ k ≠ 40)) → (x ≠ 187 ∨ k < 1764) → h3 x k = h x k := fun x k a b d => by rw [t1 x k d, z1 x k a, x2 x k b]
    have fb : ∀ x k, (x < 211 ∨ 214 < x) → (x ≠ 181 ∨ (k ≠ 37 ∧ k ≠ 38 ∧ k ≠ 39 ∧ k ≠ 40)) → (x ≠ 187 ∨ k < 1764) → hb x k = h x k := fun x k a b d => by rw [z1 x k a, x2 x k b]
    -- found here
    by_cases q : cnB n ar nl sg mn se lf rt lw u c = true ∧ (cnt : Int) = u3
    · refine ⟨hb, fb, .inr ⟨0, by omega, q.1, q.2, ?_, rb⟩⟩
      rw [z2, if_pos q.1, if_pos q.2]
    · obtain ⟨d, hd⟩ : ∃ d, d = b1 (cnB n ar nl sg mn se lf rt lw u c) := ⟨_, rfl⟩
      have d1 : d ≤ 1 := by rw [hd]; unfold b1; split <;> omega
      have z3 : LX12_findModel_6 F 181 (i : Int) (bi u) u3 k55 k41 (N + 1) (cnt : Int) 1 h = zbd (fX12_nextTable F 181 hb) fun r2 h => LX12_findModel_6 F 181 (i : Int) (bi u) u3 k55 k41 N ((cnt + d : Nat) : Int) r2 h := by
        rw [z2, hd]
        unfold b1
        by_cases w : cnB n ar nl sg mn se lf rt lw u c = true
        · rw [if_pos w, if_pos w, if_neg (fun y => q ⟨w, y⟩)]
        · rw [if_neg w, if_neg w]; rfl
      have sh : ∀ k, sumF (fun c => b1 (cnB n ar nl sg mn se lf rt lw u c)) (k + 1) c = d + sumF (fun c => b1 (cnB n ar nl sg mn se lf rt lw u c)) k (c + 1) := fun k => by rw [sumF_s, hd]
      rw [z3]
      rcases t2 with ⟨g1, g2, g3⟩ | ⟨g1, g2⟩
      · rw [g2, zbd_some]
        obtain ⟨h', i1, i2⟩ := ih (c + 1) N (cnt + d) h3 (by omega) (by omega) (by omega) (by omega) (MLx_off (fun x k a b => f3 x k (by omega) (by omega) b) g3 hX.2)
        refine ⟨h', fun x k a b e => (i1 x k a b e).trans (f3 x k a b e), ?_⟩
        rcases i2 with ⟨j1, j2⟩ | ⟨k, j1, j2, j3, j4, j5⟩
        · refine .inl ⟨by rw [j1, sh, Nat.add_assoc], fun k hk hc' => ?_⟩
          cases k with
          | zero => exact fun y => q ⟨hc', y⟩
          | succ k =>
            rw [sh, ← Nat.add_assoc]
            exact j2 k (by omega) (by rw [Nat.add_assoc, Nat.add_comm 1 k]; exact hc')
        · refine .inr ⟨k + 1, by omega, by rw [← Nat.add_assoc, Nat.add_right_comm]; exact j2, by rw [sh, ← Nat.add_assoc]; exact j3, j4, by rw [← Nat.add_assoc, Nat.add_right_comm]; exact j5⟩
      · rw [g2, zbd_some]
        obtain rfl : m = 0 := by omega
        obtain ⟨N, rfl⟩ : ∃ M, N = M + 1 := ⟨N - 1, by omega⟩
        refine ⟨h3, f3, .inl ⟨?_, fun k hk hc' => ?_⟩⟩
        · rw [LX12_findModel_6, if_pos rfl, sh]; rfl
        · obtain rfl : k = 0 := by omega
          exact fun y => q ⟨hc', y⟩
end FM
