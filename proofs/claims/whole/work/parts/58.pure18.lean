/-! calls that change a drawer: keep on both sides; drop -/
theorem DR_off {h h' : HF} {d : Nat} (e1 : ∀ i k, i ≤ 3 → h' (117 + 4 * d + i) k = h (117 + 4 * d + i) k) (e2 : h' 184 d = h 184 d) (e3 : h' 185 d = h 185 d) (e4 : ∀ o, o < 4 → h' 186 (4 * d + o) = h 186 (4 * d + o)) (e5 : ∀ k, k < 196 → h' 187 (196 * d + k) = h 187 (196 * d + k)) (hD : DR h d) : DR h' d := by
  have hC : CR h (117 + 4 * d) 184 185 186 187 d := hD
  obtain ⟨m, t, -, -, m1, mt⟩ := CR_ends hC
  exact CR_move hC m1 mt (e1 0 0 (by omega)) (e1 0 1 (by omega)) (e1 0 2 (by omega)) (fun o _ => e1 1 o (by omega)) (fun o _ => e1 2 o (by omega)) (fun o _ => e1 3 o (by omega)) e2 e3 e4 e5
theorem keep2 {F d : Nat} {h : HF} (hF : 200 ≤ F) (hd : d < 8) (hI : I5d h) (hD : DR h d) : ∃ h1, fX3_keep F (0 + 10) (d : Int) (117 + 4 * d) h = some (0, h1) ∧ (∀ c' k', (c' < 12 ∨ 76 < c') → (c' ≠ 10 ∨ (k' ≠ 2 ∧ k' ≠ 3)) → h1 c' k' = h c' k') ∧ ∀ h2, (∀ c k, S5 c k = true → h2 c k = h1 c k) → h2 184 d = h 184 d → h2 185 d = h 185 d → (∀ o, o < 4 → h2 186 (4 * d + o) = h 186 (4 * d + o)) → (∀ k, k < 196 → h2 187 (196 * d + k) = h 187 (196 * d + k)) → ∃ h3, fX12_keep F 181 (d : Int) h2 = some (0, h3) ∧ (∀ c' k', (c' < 188 ∨ 192 < c') → (c' ≠ 181 ∨ (k' ≠ 15 ∧ k' ≠ 16)) → h3 c' k' = h2 c' k') ∧ I5d h3 := by
  obtain ⟨ol, kp, ce, a1, a2, a3, b1, b2, b3, b4, hA⟩ := hI
  have hC : CR h (117 + 4 * d) 184 185 186 187 d := hD
  obtain ⟨m, t, hm, ht, m1, mt⟩ := CR_ends hC
  obtain ⟨h1, e1, k1, n3, n2, ⟨s1, s2, s3, s4, s5, s6, s7⟩, old⟩ := ckeep (F := F) (x := (d : Int)) (kt_drw d hd) (by omega) b1 a1 b2 a2 m1 hm mt ht
  refine ⟨h1, e1, k1, fun h2 g5 r0 r1 r2 r3 => ?_⟩
  have hs : (ol + kp) % 16 < 16 := Nat.mod_lt _ (by decide)
  have f5 : ∀ c k, ((12 ≤ c ∧ c ≤ 76) ∨ (188 ≤ c ∧ c ≤ 192)) → h2 c k = h1 c k := fun c k hc => g5 c k (by simp [S5]; omega)
  have l1 : ∀ c k, 188 ≤ c → c ≤ 192 → h2 c k = h c k := fun c k x y => (f5 c k (by omega)).trans (k1 c k (by omega) (by omega))
  obtain ⟨h3, e3, k3, m5, m6, ⟨t1, t2, t3, t4, t5⟩, oldm⟩ := mkeep (F := F) (d := d) (c := ce) (m := kp) (h := h2) hF (by omega) (by rw [g5 181 15 (by decide), k1 181 15 (by decide) (by decide)]; exact b3) a3 (by rw [g5 181 16 (by decide), k1 181 16 (by decide) (by decide)]; exact b4) a2
  have c3 : ∀ c k, (12 ≤ c ∧ c ≤ 76) → h3 c k = h1 c k := fun c k hc => (k3 c k (by omega) (by omega)).trans (f5 c k (by omega))
  generalize hss : (ol + kp) % 16 = s at hs s1 s2 s3 s4 s5 s6 s7 old
  refine ⟨h3, e3, k3, hist_keep hd a1 a2 a3 hA ?_ ?_ m5 m6 ?_ t1 ?_ ?_ ?_ ?_⟩
  · rw [k3 10 3 (by decide) (by decide), g5 10 3 (by decide)]; exact n3
  · rw [k3 10 2 (by decide) (by decide), g5 10 2 (by decide)]; exact n2
  · rw [hss, c3 12 _ (by omega)]; exact s1
  · rw [hss]
    exact CR_move hC m1 mt (by rw [c3 _ _ (by omega)]; exact s2) (by rw [c3 _ _ (by omega)]; exact s3) (by rw [c3 _ _ (by omega)]; exact s4) (fun o ho => by rw [c3 _ _ (by omega)]; exact s5 o ho) (fun o ho => by rw [c3 _ _ (by omega)]; exact s6 o ho) (fun i hi => by rw [c3 _ _ (by omega)]; exact s7 i hi) (t2.trans r0) (t3.trans r1) (fun o ho => (t4 o ho).trans (r2 o ho)) (fun k hk => (t5 k hk).trans (r3 k hk))
  · intro j hj hne
    rw [hss] at hne
    rw [c3 12 j (by omega)]; exact (old j hj hne).1
  · intro j hj
    rw [(oldm j hj).1, l1 188 j (by decide) (by decide)]
  · intro j j' hj hne hj' hne' hC'
    rw [hss] at hne
    obtain ⟨m', t', -, -, x1, x2⟩ := CR_ends hC'
    obtain ⟨y1, y2, y3, y4, y5⟩ := oldm j' hne'
    have o2 := (old j hj hne).2
    refine CR_move hC' x1 x2 ?_ ?_ ?_ ?_ ?_ ?_ ?_ ?_ ?_ ?_
    · rw [c3 _ _ (by omega)]; exact congrFun (o2 0 (by decide)) 0
    · rw [c3 _ _ (by omega)]; exact congrFun (o2 0 (by decide)) 1
    · rw [c3 _ _ (by omega)]; exact congrFun (o2 0 (by decide)) 2
    · intro o _; rw [c3 _ _ (by omega)]; exact congrFun (o2 1 (by decide)) o
    · intro o _; rw [c3 _ _ (by omega)]; exact congrFun (o2 2 (by decide)) o
    · intro i _; rw [c3 _ _ (by omega)]; exact congrFun (o2 3 (by decide)) i
    · rw [y2, l1 189 j' (by decide) (by decide)]
    · rw [y3, l1 190 j' (by decide) (by decide)]
    · intro o ho; rw [y4 o ho, l1 191 _ (by decide) (by decide)]
    · intro k hk; rw [y5 k hk, l1 192 _ (by decide) (by decide)]
theorem Inv_change {I6 : HF → Prop} {h h4 : HF} (hI : InvP I4d I5d I6 h) (e : ∀ c k, (c ≤ 4 ∨ c = 86 ∨ (c = 8 ∧ k = 0) ∨ c = 182 ∨ c = 183 ∨ (c = 181 ∧ (k = 2 ∨ k = 4 ∨ k = 5)) ∨ S6 c k = true) → h4 c k = h c k) (hD : ∀ d, d < 8 → DR h4 d) (h5 : I5d h4) : InvP I4d I5d I6 h4 := by
  obtain ⟨⟨t, hc, hm, hl, hb⟩, ⟨o, oc, om, ol⟩, h3, h4', -, h6⟩ := hI
  have el : ∀ c k, c ≤ 4 → h4 c k = h c k := fun c k q => e c k (Or.inl q)
  refine ⟨⟨t, TP_keep hc (el _ _ (by decide)) (fun i => el _ _ (by decide)), TP_keep hm (e _ _ (by decide)) (fun i => e _ _ (Or.inr (Or.inr (Or.inr (Or.inl rfl))))), hl, hb⟩, ⟨o, TP_keep oc (el _ _ (by decide)) (fun i => el _ _ (by decide)), TP_keep om (e _ _ (by decide)) (fun i => e _ _ (Or.inr (Or.inr (Or.inr (Or.inr (Or.inl rfl)))))), ol⟩, ⟨?_, ?_⟩, I4d_put hD ((e 8 0 (by decide)).trans (I4d_8 h4')), I5d_put h5, I_keep (fun c k q => e c k (Or.inr (Or.inr (Or.inr (Or.inr (Or.inr (Or.inr q))))))) h6⟩
  · rw [e 86 0 (by decide), e 181 5 (by decide)]; exact h3.1
  · rw [e 86 0 (by decide)]; exact h3.2
theorem Inv_change' {I6 : HF → Prop} {h h4 : HF} (hI : InvP I4d I5d I6 h) (e : ∀ c k, (c ≤ 4 ∨ (c = 8 ∧ k = 0) ∨ (77 ≤ c ∧ c ≤ 86) ∨ (149 ≤ c ∧ c ≤ 180) ∨ c = 182 ∨ c = 183 ∨ (194 ≤ c ∧ c ≤ 205) ∨ (c = 181 ∧ (k = 2 ∨ k = 4 ∨ k = 5))) → h4 c k = h c k) (hD : ∀ d, d < 8 → DR h4 d) (h5 : I5d h4) : InvP I4d I5d I6 h4 :=
  Inv_change hI (fun c k q => e c k (by
    rcases q with q | q | q | q | q | q | q
    · omega
    · omega
    · omega
    · omega
    · omega
    · omega
    · have := S6_out q
      omega)) hD h5
theorem ps_drop {I6 : HF → Prop} {F : Nat} (hF : 200 ≤ F) : PS_drop F (InvP I4d I5d I6) := by
  intro h a1 hI _
  have hD : ∀ d, d < 8 → DR h d := fun d hd => I4d_get hI.2.2.2.1 hd
  unfold fX11_drop fX12_drop fX0_empty fX0_begin
  simp only [zpf]
  by_cases q : rfs h a1 = 0
  · obtain ⟨d, n, ar, tb, rfl, hd, hw, hc, hm⟩ := held hD q
    obtain ⟨h1, e1, k1, K⟩ := keep2 hF hd (I5d_get hI.2.2.2.2.1) (hD d hd)
    generalize hg : stp (stp (stp h1 (117 + 4 * d) 0 0) (117 + 4 * d) 1 0) (117 + 4 * d) 2 0 = g
    have g1 : ∀ c k, (c ≠ 117 + 4 * d ∨ 2 < k) → g c k = h1 c k := fun c k x => by rw [← hg, stp_ne (by omega), stp_ne (by omega), stp_ne (by omega)]
    have gh : ∀ c k, (c ≠ 117 + 4 * d ∨ 2 < k) → (c < 12 ∨ 76 < c) → (c ≠ 10 ∨ (k ≠ 2 ∧ k ≠ 3)) → g c k = h c k := fun c k x y z => (g1 c k x).trans (k1 c k y z)
    have tg : ∀ c k, (c ≠ 181 ∨ k ≠ 0) → stp g 181 0 0 c k = g c k := fun c k x => stp_ne x
    obtain ⟨h3, e3, k3, i5⟩ := K (stp g 181 0 0) (fun c k x => by have := S5_out x; rw [tg c k (by omega), g1 c k (by omega)]) (by rw [tg _ _ (by omega), gh _ _ (by omega) (by omega) (by omega)]) (by rw [tg _ _ (by omega), gh _ _ (by omega) (by omega) (by omega)]) (fun o _ => by rw [tg _ _ (by omega), gh _ _ (by omega) (by omega) (by omega)]) (fun o _ => by rw [tg _ _ (by omega), gh _ _ (by omega) (by omega) (by omega)])
    have lo : ∀ c k, (c < 188 ∨ 192 < c) → (c ≠ 181 ∨ (k ≠ 15 ∧ k ≠ 16 ∧ k ≠ 0)) → stp h3 184 d 0 c k = if c = 184 ∧ k = d then 0 else g c k := fun c k x y => by
      by_cases z : c = 184 ∧ k = d
      · rw [if_pos z, z.1, z.2, stp_eq]
      · rw [if_neg z, stp_ne (by omega), k3 c k x (by omega), tg c k (by omega)]
    have lo' : ∀ c k, (c < 188 ∨ 192 < c) → (c ≠ 181 ∨ (k ≠ 15 ∧ k ≠ 16 ∧ k ≠ 0)) → (c ≠ 184 ∨ k ≠ d) → stp h3 184 d 0 c k = g c k := fun c k x y z => by rw [lo c k x y, if_neg (by omega)]
    refine ⟨1, g, stp h3 184 d 0, ?_, ?_, Inv_change' hI ?_ ?_ ?_⟩
    · rw [refuse_c hD, zbd_some, if_pos q, drw_at hd, e1, zbd_some, drw_at hd, zbd_some, hg, zbd_some]
    · rw [refuse_m, rfs_thrown, zbd_some, if_pos (by rw [← q]; unfold rfs; rw [gh 184 _ (by omega) (by omega) (by omega)]), e3, zbd_some, zwr_ok (a := 181 + 3) ⟨by omega, by show _ < ((10 : Nat) : Int); omega⟩, Int.toNat_natCast]
    · intro c k x
      rw [lo' c k (by omega) (by omega) (by omega), gh c k (by omega) (by omega) (by omega)]
    · intro d' hd'
      by_cases z : d' = d
      · subst z
        refine Or.inl ⟨?_, ?_, ?_, ?_, ?_⟩
        · rw [lo' _ _ (by omega) (by omega) (by omega), ← hg, stp_ne (Or.inr (by decide)), stp_ne (Or.inr (by decide)), stp_eq]
        · rw [lo' _ _ (by omega) (by omega) (by omega), ← hg, stp_ne (Or.inr (by decide)), stp_eq]
        · rw [lo' _ _ (by omega) (by omega) (by omega), ← hg, stp_eq]
        · rw [lo' _ _ (by omega) (by omega) (by omega), gh _ _ (by omega) (by omega) (by omega), hc.2.2.2.2.1 0 (by omega)]
          rfl
        · rw [stp_eq]
      · refine DR_off (fun i k hi => ?_) ?_ ?_ (fun o ho => ?_) (fun k hk => ?_) (hD d' hd')
        · rw [lo' _ _ (by omega) (by omega) (by omega), gh _ _ (by omega) (by omega) (by omega)]
        · rw [lo' _ _ (by omega) (by omega) (by omega), gh _ _ (by omega) (by omega) (by omega)]
        · rw [lo' _ _ (by omega) (by omega) (by omega), gh _ _ (by omega) (by omega) (by omega)]
        · rw [lo' _ _ (by omega) (by omega) (by omega), gh _ _ (by omega) (by omega) (by omega)]
        · rw [lo' _ _ (by omega) (by omega) (by omega), gh _ _ (by omega) (by omega) (by omega)]
    · exact I5d_congr (fun c k x => by have := S5_out x; exact stp_ne (by omega)) i5
  · refine ⟨rfs h a1, h, stp h 181 0 0, ?_, ?_, Inv_thrown hI⟩
    · rw [refuse_c hD, zbd_some, if_neg q]
    · rw [refuse_m, rfs_thrown, zbd_some, if_neg q]
