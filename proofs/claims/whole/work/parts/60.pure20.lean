/-! stamp -/
def stt (tb : Nat → Nat → Int) (o n a t : Nat) : Nat → Nat → Nat → Int
  | 0 => tb
  | b + 1 => updT (stt tb o n a t b) o (ix n 2 t b) (stt tb o n a t b o (ix n 2 a b))
section ST
variable {F A d n o : Nat} {ar : List Nat} {tb : Nat → Nat → Int}
theorem ix2_lt {a b : Nat} (ha : a < n) (hb : b < n) : ix n 2 a b < pw n 2 := ix_lt (by omega) (fun _ => ha) (fun _ => hb)
theorem stt_WF (hw : WF n ar tb) (ho : o < ar.length) (h2 : ar.getD o 0 = 2) {a t : Nat} (ha : a < n) : ∀ b, b ≤ n → WF n ar (stt tb o n a t b)
  | 0, _ => hw
  | b + 1, hb => by
    have := stt_WF hw ho h2 (t := t) ha b (by omega)
    exact WF_put this (this.2.2.2 o ho _ (by rw [h2]; exact ix2_lt ha (by omega)))
theorem spot2 {h : HF} (hk : kt A = 0 + 3) (hw : WF n ar tb) (hr : RepC h A n ar tb) (ho : o < ar.length) (h2 : ar.getD o 0 = 2) {a b : Nat} (ha : a < n) (hb : b < n) : fX0_spot F A (o : Int) (a : Int) (b : Int) h = some (((sto n ar o + ix n 2 a b : Nat) : Int), h) := by
  have := spot_eq (F := F) (a := (a : Int)) (b := (b : Int)) hk hw hr ho (fun _ => by omega) (fun _ => by omega)
  rw [h2] at this
  exact this
theorem mat2 {h : HF} (hd : d < 10) (hw : WF n ar tb) (hr : RepM h 184 185 186 187 d n ar tb) (ho : o < ar.length) (h2 : ar.getD o 0 = 2) {a b : Nat} (ha : a < n) (hb : b < n) : fX12_at F 181 (d : Int) (o : Int) (a : Int) (b : Int) h = some (((196 * d + 49 * o + ix n 2 a b : Nat) : Int), h) := by
  have := mat_eq (F := F) (a := (a : Int)) (b := (b : Int)) hd hw hr ho (fun _ => by omega) (fun _ => by omega)
  rw [h2] at this
  exact this
theorem cst_L (hk : kt A = 0 + 3) (hw : WF n ar tb) (ho : o < ar.length) (h2 : ar.getD o 0 = 2) {a t M : Nat} (ha : a < n) (ht : t < n) (hM : M ≤ n) {k : HF → RO} : ∀ (m b N : Nat) (g : HF), b + m = M → m + 1 ≤ N → RepC g A n ar (stt tb o n a t b) → ∃ g', LX11_stamp_74 F (o : Int) (a : Int) (t : Int) (M : Int) A k N (b : Int) g = k g' ∧ RepC g' A n ar (stt tb o n a t M) ∧ ∀ c i, c ≠ A + 3 → g' c i = g c i := by
  have hn := hw.1.2
  have hl := hw.2.1
  have h1' := sto_le hw.1.2 hw.2.2.1 o (by omega)
  have h2' := pw_le hw.1.2 (hw.2.2.1 o ho)
  obtain ⟨-, -, -, -, -, kk⟩ := zl_0 A hk
  intro m
  induction m with
  | zero =>
    intro b N g hb hN hr
    obtain ⟨N, rfl⟩ : ∃ M, N = M + 1 := ⟨N - 1, by omega⟩
    obtain rfl : b = M := by omega
    rw [LX11_stamp_74, if_neg (by omega)]
    exact ⟨g, rfl, hr, fun _ _ _ => rfl⟩
  | succ m ih =>
    intro b N g hb hN hr
    obtain ⟨N, rfl⟩ : ∃ M, N = M + 1 := ⟨N - 1, by omega⟩
    have hwb := stt_WF hw ho h2 (t := t) ha b (by omega)
    have hi := ix2_lt (n := n) ht (show b < n by omega)
    rw [LX11_stamp_74, if_pos (by omega), spot2 hk hwb hr ho h2 ht (by omega), zbd_some, val2 hk hwb hr ho h2 ha (by omega), zbd_some, zwr_ok (a := A + 3) ⟨by omega, by rw [kk]; rw [h2] at h2'; omega⟩, Int.toNat_natCast]
    simp only [zlet]
    rw [wr_id ⟨by omega, by omega⟩, show (b : Int) + 1 = ((b + 1 : Nat) : Int) by omega]
    have hp := RepC_put (v := stt tb o n a t b o (ix n 2 a b)) (show ix n 2 t b < pw n (ar.getD o 0) by rw [h2]; exact hi) hr
    obtain ⟨g', x1, x2, x3⟩ := ih (b + 1) N _ (by omega) (by omega) hp
    exact ⟨g', x1, x2, fun c i hc => by rw [x3 c i hc, stp_ne (Or.inl hc)]⟩
theorem mst_L (hd : d < 10) (hw : WF n ar tb) (ho : o < ar.length) (h2 : ar.getD o 0 = 2) {a t M : Nat} (ha : a < n) (ht : t < n) (hM : M ≤ n) {k : HF → RO} : ∀ (m b N : Nat) (g : HF), b + m = M → m + 1 ≤ N → RepM g 184 185 186 187 d n ar (stt tb o n a t b) → ∃ g', LX12_stamp_67 F 181 (d : Int) (o : Int) (a : Int) (t : Int) (M : Int) k N (b : Int) g = k g' ∧ RepM g' 184 185 186 187 d n ar (stt tb o n a t M) ∧ ∀ c i, (c ≠ 187 ∨ i < 196 * d ∨ 196 * d + 196 ≤ i) → g' c i = g c i := by
  have hn := hw.1.2
  have hl := hw.2.1
  have h2' := pw_le hw.1.2 (hw.2.2.1 o ho)
  intro m
  induction m with
  | zero =>
    intro b N g hb hN hr
    obtain ⟨N, rfl⟩ : ∃ M, N = M + 1 := ⟨N - 1, by omega⟩
    obtain rfl : b = M := by omega
    rw [LX12_stamp_67, if_neg (by omega)]
    exact ⟨g, rfl, hr, fun _ _ _ => rfl⟩
  | succ m ih =>
    intro b N g hb hN hr
    obtain ⟨N, rfl⟩ : ∃ M, N = M + 1 := ⟨N - 1, by omega⟩
    have hwb := stt_WF hw ho h2 (t := t) ha b (by omega)
    have hi := ix2_lt (n := n) ht (show b < n by omega)
    rw [h2] at h2'
    rw [LX12_stamp_67, if_pos (by omega), mat2 hd hwb hr ho h2 ht (by omega), zbd_some, mval2 hd hwb hr ho h2 ha (by omega), zbd_some, zwr_ok (a := 181 + 6) ⟨by omega, by show _ < ((1960 : Nat) : Int); omega⟩, Int.toNat_natCast]
    simp only [zlet]
    rw [wr_id ⟨by omega, by omega⟩, show (b : Int) + 1 = ((b + 1 : Nat) : Int) by omega]
    have hp := RepM_put (v := stt tb o n a t b o (ix n 2 a b)) hwb ho (show ix n 2 t b < pw n (ar.getD o 0) by rw [h2]; exact hi) hr
    obtain ⟨g', x1, x2, x3⟩ := ih (b + 1) N _ (by omega) (by omega) hp
    exact ⟨g', x1, x2, fun c i hc => by rw [x3 c i hc, stp_ne (by omega)]⟩
end ST
theorem ps_stamp {I6 : HF → Prop} {F : Nat} (hF : 200 ≤ F) : PS_stamp F (InvP I4d I5d I6) := by
  intro h a1 a2 a3 a4 a5 hI _ _ _ _ _
  have hD : ∀ d, d < 8 → DR h d := fun d hd => I4d_get hI.2.2.2.1 hd
  have hI' := Inv_thrown hI
  unfold fX11_stamp fX12_stamp
  simp only [zjn, zpf, zgf]
  by_cases q : rfs h a1 = 0
  · obtain ⟨d, n, ar, tb, rfl, hd, hw, hc, hm⟩ := held hD q
    have hm' := RepM_thrown hm
    have hn := hw.1.2
    obtain ⟨r, e1, e2, e3⟩ := binary (F := F) (y := a2) hD hd q hw hc hm
    have e2' := e2 _ hm' (by rw [rfs_thrown]; exact q)
    by_cases q0 : r = 0
    · obtain ⟨o, rfl, ho, h2⟩ := e3 q0
      have x3 := hasElement_eq (F := F) (x := a3) hc.1
      have x4 := hasElement_eq (F := F) (x := a4) hc.1
      by_cases q3 : 0 ≤ a3 ∧ a3 < (n : Int)
      · by_cases q4 : 0 ≤ a4 ∧ a4 < (n : Int)
        · by_cases q5 : 0 ≤ a5 ∧ a5 ≤ (n : Int)
          · obtain ⟨a, rfl⟩ : ∃ a : Nat, a3 = (a : Int) := ⟨a3.toNat, by omega⟩
            obtain ⟨t, rfl⟩ : ∃ a : Nat, a4 = (a : Int) := ⟨a4.toNat, by omega⟩
            obtain ⟨M, rfl⟩ : ∃ a : Nat, a5 = (a : Int) := ⟨a5.toNat, by omega⟩
            obtain ⟨h1, f1, k1, K⟩ := keep2 hF hd (I5d_get hI.2.2.2.2.1) (hD d hd)
            have hc1 : RepC h1 (117 + 4 * d) n ar tb := RepC_keep (fun i k hi => k1 _ _ (by omega) (by omega)) hc
            obtain ⟨g, y1, y2, g1⟩ := cst_L (F := F) (kt_drw d hd) hw ho h2 (a := a) (t := t) (M := M) (by omega) (by omega) (by omega) (k := fun h => some ((M : Int), h)) M 0 F h1 (by omega) (by omega) hc1
            have gh : ∀ c k, c ≠ 117 + 4 * d + 3 → (c < 12 ∨ 76 < c) → (c ≠ 10 ∨ (k ≠ 2 ∧ k ≠ 3)) → g c k = h c k := fun c k x y z => (g1 c k x).trans (k1 c k y z)
            have tg : ∀ c k, (c ≠ 181 ∨ k ≠ 0) → stp g 181 0 0 c k = g c k := fun c k x => stp_ne x
            obtain ⟨h3, f3, k3, i5⟩ := K (stp g 181 0 0) (fun c k x => by have := S5_out x; rw [tg c k (by omega), g1 c k (by omega)]) (by rw [tg _ _ (by omega), gh _ _ (by omega) (by omega) (by omega)]) (by rw [tg _ _ (by omega), gh _ _ (by omega) (by omega) (by omega)]) (fun o _ => by rw [tg _ _ (by omega), gh _ _ (by omega) (by omega) (by omega)]) (fun o _ => by rw [tg _ _ (by omega), gh _ _ (by omega) (by omega) (by omega)])
            have mg : RepM (stp g 181 0 0) 184 185 186 187 d n ar tb := RepM_keep (fun k => ⟨by rw [tg _ _ (by omega), gh _ _ (by omega) (by omega) (by omega)], by rw [tg _ _ (by omega), gh _ _ (by omega) (by omega) (by omega)], by rw [tg _ _ (by omega), gh _ _ (by omega) (by omega) (by omega)], by rw [tg _ _ (by omega), gh _ _ (by omega) (by omega) (by omega)]⟩) hm
            have m3 : RepM h3 184 185 186 187 d n ar tb := RepM_keep (fun k => ⟨k3 _ _ (by omega) (by omega), k3 _ _ (by omega) (by omega), k3 _ _ (by omega) (by omega), k3 _ _ (by omega) (by omega)⟩) mg
            obtain ⟨h4, z1, z2, g4⟩ := mst_L (F := F) (show d < 10 by omega) hw ho h2 (a := a) (t := t) (M := M) (by omega) (by omega) (by omega) (k := fun h => some ((M : Int), h)) M 0 F h3 (by omega) (by omega) m3
            have rr := e2 _ mg ((rfs_eq (fun d' hd' => by rw [tg _ _ (by omega), gh _ _ (by omega) (by omega) (by omega)])).trans q)
            refine ⟨(M : Int), g, h4, ?_, ?_, Inv_drw hI ?_ hd (Or.inr ⟨n, ar, stt tb o n a t M, stt_WF hw ho h2 (by omega) M (by omega), ?_, z2⟩) ?_⟩
            · rw [e1, zbd_some, if_pos q0, drw_at hd, x3, zbd_some, bl_pos q3, if_neg (show ¬ (1 : Int) = 0 by decide), x4, zbd_some, bl_pos q4, if_neg (show ¬ (1 : Int) = 0 by decide), if_neg (show ¬ (M : Int) < 0 by omega), hc.1, if_neg (show ¬ (n : Int) < (M : Int) by omega), f1, zbd_some]
              exact y1
            · rw [rr, zbd_some, if_pos q0, misElement_eq (by omega) mg.1, zbd_some, bl_pos q3, if_neg (show ¬ (1 : Int) = 0 by decide), misElement_eq (by omega) mg.1, zbd_some, bl_pos q4, if_neg (show ¬ (1 : Int) = 0 by decide), if_neg (show ¬ (M : Int) < 0 by omega), msz (by omega) mg, if_neg (show ¬ (n : Int) < (M : Int) by omega), f3, zbd_some]
              exact z1
            · intro c k x
              rw [g4 _ _ (by omega), k3 _ _ (by omega) (by omega), tg _ _ (by omega), gh _ _ (by omega) (by omega) (by omega)]
            · exact RepC_keep (fun i k hi => by rw [g4 _ _ (by omega), k3 _ _ (by omega) (by omega), tg _ _ (by omega)]) y2
            · exact I5d_congr (fun c k x => by have := S5_out x; exact g4 _ _ (by omega)) i5
          · refine ⟨-13, h, stp h 181 0 0, ?_, ?_, hI'⟩
            · rw [e1, zbd_some, if_pos q0, drw_at hd, x3, zbd_some, bl_pos q3, if_neg (show ¬ (1 : Int) = 0 by decide), x4, zbd_some, bl_pos q4, if_neg (show ¬ (1 : Int) = 0 by decide), hc.1]
              by_cases q6 : a5 < 0
              · rw [if_pos q6]
              · rw [if_neg q6, if_pos (by omega)]
            · rw [e2', zbd_some, if_pos q0, misElement_eq (by omega) hm'.1, zbd_some, bl_pos q3, if_neg (show ¬ (1 : Int) = 0 by decide), misElement_eq (by omega) hm'.1, zbd_some, bl_pos q4, if_neg (show ¬ (1 : Int) = 0 by decide)]
              by_cases q6 : a5 < 0
              · rw [if_pos q6]
              · rw [if_neg q6, msz (by omega) hm', if_pos (by omega)]
        · refine ⟨-13, h, stp h 181 0 0, ?_, ?_, hI'⟩
          · rw [e1, zbd_some, if_pos q0, drw_at hd, x3, zbd_some, bl_pos q3, if_neg (show ¬ (1 : Int) = 0 by decide), x4, zbd_some, bl_neg q4, if_pos (show (0 : Int) = 0 from rfl)]
          · rw [e2', zbd_some, if_pos q0, misElement_eq (by omega) hm'.1, zbd_some, bl_pos q3, if_neg (show ¬ (1 : Int) = 0 by decide), misElement_eq (by omega) hm'.1, zbd_some, bl_neg q4, if_pos (show (0 : Int) = 0 from rfl)]
      · refine ⟨-13, h, stp h 181 0 0, ?_, ?_, hI'⟩
        · rw [e1, zbd_some, if_pos q0, drw_at hd, x3, zbd_some, bl_neg q3, if_pos (show (0 : Int) = 0 from rfl)]
        · rw [e2', zbd_some, if_pos q0, misElement_eq (by omega) hm'.1, zbd_some, bl_neg q3, if_pos (show (0 : Int) = 0 from rfl)]
    · refine ⟨r, h, stp h 181 0 0, ?_, ?_, hI'⟩
      · rw [e1, zbd_some, if_neg q0]
      · rw [e2', zbd_some, if_neg q0]
  · obtain ⟨e1, e2⟩ := binary_no (F := F) (y := a2) hD q
    refine ⟨rfs h a1, h, stp h 181 0 0, ?_, ?_, hI'⟩
    · rw [e1, zbd_some, if_neg q]
    · rw [e2 _ rfs_thrown, zbd_some, if_neg q]
