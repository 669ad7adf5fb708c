/-! bound: the reference's loop, the call -/
def bdP (n : Nat) (w : Int) (u v z : List Nat) : Bool := if w = 0 then jbB n u v z else jsB n u z && jsB n v z
theorem jsB_iff {n : Nat} {u z : List Nat} : jsB n u z = true ↔ crs n u z := by
  unfold jsB crs
  rw [alB_iff]
  constructor
  · intro h p hp
    have := h p (Nat.zero_le _) (by omega)
    rw [decide_eq_true_eq] at this
    exact this.symm
  · intro h p _ hp
    rw [decide_eq_true_eq]
    exact (h p (by omega)).symm
theorem jbB_iff {n : Nat} {u v z : List Nat} : jbB n u v z = true ↔ ∀ a b, a < n → b < n → ((u.getD a 0 = u.getD b 0 ∧ v.getD a 0 = v.getD b 0) ↔ z.getD a 0 = z.getD b 0) := by
  unfold jbB
  rw [alB_iff]
  constructor
  · intro h a b ha hb
    have := alB_iff.mp (h a (Nat.zero_le _) (by omega)) b (Nat.zero_le _) (by omega)
    rw [decide_eq_true_eq] at this
    have e : (decide (u.getD a 0 = u.getD b 0) && decide (v.getD a 0 = v.getD b 0)) = true ↔ decide (z.getD a 0 = z.getD b 0) = true := by rw [this]
    simpa using e
  · intro h a _ ha
    rw [alB_iff]
    intro b _ hb
    rw [decide_eq_true_eq]
    have := h a b (by omega) (by omega)
    by_cases q : z.getD a 0 = z.getD b 0
    · rw [decide_eq_true q]
      have := this.mpr q
      rw [decide_eq_true this.1, decide_eq_true this.2]; rfl
    · rw [decide_eq_false q]
      by_cases q1 : u.getD a 0 = u.getD b 0
      · have q2 : ¬ v.getD a 0 = v.getD b 0 := fun e => q (this.mp ⟨q1, e⟩)
        rw [decide_eq_true q1, decide_eq_false q2]; rfl
      · rw [decide_eq_false q1]; rfl
section BL
variable {F d n : Nat} {ar : List Nat} {tb : Nat → Nat → Int} {u v : List Nat}
theorem bound_L (hF : 9 ≤ F) (hd : d < 10) (hw : WF n ar tb) {w : Int} (hu : PLn n u) (hv : PLn n v) {k : Int → HF → RO} : ∀ (m : Nat) (l : List Nat) (N num most : Nat) (best : Int) (h : HF), sqE (nxM n) m l = true → m + 1 ≤ N → num + m ≤ 6000 → LN h 207 l → l.length = n → BD l → RepM h 184 185 186 187 d n ar tb → LN h 208 u → LN h 209 v → ∃ h', LX12_bound_92 F 181 (d : Int) w (n : Int) k N (num : Int) best (most : Int) 1 h = k (bstF (bdP n w u v) (fun l => bc (lds n l) n) ((sq (nxM n) m l).filter (fun l => lnB n l && agB tb n ar l)) num best most) h' ∧ ∀ c' i', c' ≠ 207 → h' c' i' = h c' i' := by
  have hn := hw.1
  have k8 : kl (181 + 27) = 7 := by decide +kernel
  have k9 : kl (181 + 28) = 7 := by decide +kernel
  intro m
  induction m with
  | zero =>
    intro l N num most best h hE
    exact absurd hE (by simp [sqE])
  | succ m ih =>
    intro l N num most best h hE hN hnm hL hl hB hr hU hV
    obtain ⟨N, rfl⟩ : ∃ M, N = M + 1 := ⟨N - 1, by omega⟩
    obtain ⟨h3, e3, n3, f3⟩ := nextLine_eq (F := F) (h := h) (l := l) hF (by omega) hL hB
    rw [hl] at e3 n3
    have tail : ∀ (num2 most2 : Nat) (best2 : Int), num2 ≤ num + 1 → ∃ h', (zbd (fX12_nextLine F 181 (n : Int) h) fun r9 h => LX12_bound_92 F 181 (d : Int) w (n : Int) k N (num2 : Int) best2 (most2 : Int) r9 h) = k (bstF (bdP n w u v) (fun l => bc (lds n l) n) ((match nxM n l with | none => [] | some l' => sq (nxM n) m l').filter (fun l => lnB n l && agB tb n ar l)) num2 best2 most2) h' ∧ ∀ c' i', c' ≠ 207 → h' c' i' = h c' i' := by
      intro num2 most2 best2 h2
      rw [e3, zbd_some]
      cases q : nxM n l with
      | none =>
        obtain ⟨N, rfl⟩ : ∃ M, N = M + 1 := ⟨N - 1, by omega⟩
        refine ⟨h3, ?_, f3⟩
        show LX12_bound_92 F 181 (d : Int) w (n : Int) k (N + 1) (num2 : Int) best2 (most2 : Int) 0 h3 = _
        rw [LX12_bound_92, if_pos rfl]
        rfl
      | some l' =>
        obtain ⟨a1, a2⟩ := nxM_len n l l' (by omega) hB q
        have hE' : sqE (nxM n) m l' = true := by
          simp only [sqE] at hE
          rw [q] at hE
          exact hE
        obtain ⟨h', x1, x2⟩ := ih l' N num2 most2 best2 h3 hE' (by omega) (by omega) (n3 l' q) (by omega) a2 (RepM_keep (fun k => ⟨f3 _ _ (by decide), f3 _ _ (by decide), f3 _ _ (by decide), f3 _ _ (by decide)⟩) hr) (LN_keep (fun i => f3 _ _ (by decide)) hU) (LN_keep (fun i => f3 _ _ (by decide)) hV)
        exact ⟨h', x1, fun c' i' hc => by rw [x2 c' i' hc, f3 c' i' hc]⟩
    have hP : ∀ (K : Int → Int → Int → Int → HF → RO) (v7 v8 v9 : Int), zjn K (fun j159 => if w = 0 then zbd (fX12_joinsBoth F 181 (n : Int) h) fun r14 h => j159 v7 v8 v9 r14 h else zbd (fX12_joins F 181 (181 + 27) (n : Int) h) fun r15 h => zjn (fun (x149_7 : Int) (x149_8 : Int) (x149_9 : Int) (h : HF) => j159 x149_7 x149_8 x149_9 0 h) fun j149 => if r15 = 0 then j149 v7 v8 v9 h else zbd (fX12_joins F 181 (181 + 28) (n : Int) h) fun r16 h => if r16 = 0 then j149 v7 v8 v9 h else j159 v7 v8 v9 1 h) = K v7 v8 v9 (bi (bdP n w u v l)) h := by
      intro K v7 v8 v9
      simp only [zjn_eq]
      unfold bdP
      by_cases qw : w = 0
      · rw [if_pos qw, if_pos qw, joinsBoth_eq hF hn.2 hu.1 hU hv.1 hV hl hL, zbd_some]
      · rw [if_neg qw, if_neg qw, joins_eq hF k8 hn.2 hu.1 hu.2.1 hU hl hL, zbd_some, joins_eq hF k9 hn.2 hv.1 hv.2.1 hV hl hL, zbd_some]
        generalize jsB n u l = b1
        generalize jsB n v l = b2
        cases b1 <;> cases b2 <;> rfl
    have es : sq (nxM n) (m + 1) l = l :: (match nxM n l with | none => [] | some l' => sq (nxM n) m l') := rfl
    rw [es, List.filter_cons, LX12_bound_92, if_neg (show ¬ (1 : Int) = 0 by decide), isLine_eq hF hL hl hn.2 hB, zbd_some, zjn_eq]
    cases q1 : lnB n l with
    | false =>
      rw [bi_f, if_pos (show (0 : Int) = 0 from rfl)]
      exact tail num most best (by omega)
    | true =>
      rw [bi_t, if_neg (show ¬ (1 : Int) = 0 by decide), agrees_eq hF hd hw hr hL hl hB, zbd_some]
      cases q2 : agB tb n ar l with
      | false =>
        rw [bi_f, if_pos (show (0 : Int) = 0 from rfl)]
        exact tail num most best (by omega)
      | true =>
        rw [bi_t, if_neg (show ¬ (1 : Int) = 0 by decide), hP, zjn_eq]
        simp only [zlet_eq]
        rw [wr_s (by omega)]
        have red : bstF (bdP n w u v) (fun l => bc (lds n l) n) (if (true && true) = true then l :: (match nxM n l with | none => [] | some l' => sq (nxM n) m l').filter (fun l => lnB n l && agB tb n ar l) else (match nxM n l with | none => [] | some l' => sq (nxM n) m l').filter (fun l => lnB n l && agB tb n ar l)) num best most = if bdP n w u v l = true ∧ most < bc (lds n l) n then bstF (bdP n w u v) (fun l => bc (lds n l) n) ((match nxM n l with | none => [] | some l' => sq (nxM n) m l').filter (fun l => lnB n l && agB tb n ar l)) (num + 1) (num : Int) (bc (lds n l) n) else bstF (bdP n w u v) (fun l => bc (lds n l) n) ((match nxM n l with | none => [] | some l' => sq (nxM n) m l').filter (fun l => lnB n l && agB tb n ar l)) (num + 1) best most := rfl
        rw [red]
        cases q3 : bdP n w u v l with
        | false =>
          rw [bi_f, if_pos (show (0 : Int) = 0 from rfl), if_neg (fun z => absurd z.1 (by decide))]
          exact tail (num + 1) most best (by omega)
        | true =>
          have ce := classes_eq (F := F) hF hn.2 hl hL
          rw [bi_t, if_neg (show ¬ (1 : Int) = 0 by decide), ce, zbd_some]
          by_cases q4 : most < bc (lds n l) n
          · rw [if_pos (show (most : Int) < ((bc (lds n l) n : Nat) : Int) by omega), if_pos ⟨rfl, q4⟩, ce, zbd_some]
            exact tail (num + 1) (bc (lds n l) n) (num : Int) (by omega)
          · rw [if_neg (show ¬ (most : Int) < ((bc (lds n l) n : Nat) : Int) by omega), if_neg (fun z => q4 z.2)]
            exact tail (num + 1) most best (by omega)
end BL
theorem ps_bound {I6 : HF → Prop} {F : Nat} (hF : 6000 ≤ F) : PS_bound F (InvP I4d I5d I6) := by
  intro h a1 a2 a3 a4 hI _ _ _ r4
  have hI' := Inv_thrown hI
  have hD : ∀ d, d < 8 → DR h d := fun d hd => I4d_get hI.2.2.2.1 hd
  unfold fX11_bound fX12_bound
  simp only [zjn, zpf]
  by_cases q : rfs h a1 = 0
  · obtain ⟨d, n, ar, tb, rfl, hd, hw, hc, hm⟩ := held hD q
    have hn := hw.1
    obtain ⟨g, g1, g2, g3, g4, g5⟩ := gather_eq (F := F) (A := 117 + 4 * d) (h := h) (by omega) (by omega) (kt_drw d hd) hw hc
    have cg : RepC g (117 + 4 * d) n ar tb := RepC_keep (fun i k hi => g5 _ _ (by omega) (by omega) (by omega)) hc
    have lt : ∀ (j : Nat) (x : List Nat), (cgL tb n ar)[j]? = some x → j < (cgL tb n ar).length := fun j x e => by
      by_cases z : j < (cgL tb n ar).length
      · exact z
      · rw [List.getElem?_eq_none (by omega)] at e; exact absurd e (by simp)
    -- a heap in which the class's scratch alone has changed, then 'thrown'
    have base : ∀ hJ : HF, (∀ c k, (c < 94 ∨ 97 < c) → hJ c k = h c k) → RepM (stp hJ 181 0 0) 184 185 186 187 d n ar tb ∧ rfs (stp hJ 181 0 0) (d : Int) = 0 ∧ ∀ h4 : HF, (∀ c i, c ≠ 207 → c ≠ 208 → c ≠ 209 → (c ≠ 181 ∨ i ≠ 43) → h4 c i = stp hJ 181 0 0 c i) → InvP I4d I5d I6 h4 := fun hJ Jh => by
      have tg : ∀ c k, (c ≠ 181 ∨ k ≠ 0) → stp hJ 181 0 0 c k = hJ c k := fun c k x => stp_ne x
      exact ⟨RepM_row hd hw (fun c q hq => by rw [tg _ _ (by omega), Jh _ _ (by omega)]) hm, (rfs_eq (fun d' hd' => by rw [tg _ _ (by omega), Jh _ _ (by omega)])).trans q, fun h4 e => Inv_while hI (fun c k z => by rw [e _ _ (by omega) (by omega) (by omega) (by omega), tg _ _ (by omega), Jh _ _ (by omega)])⟩
    have gJ : ∀ c k, (c < 94 ∨ 97 < c) → g c k = h c k := fun c k z => g5 _ _ (by omega) (by omega) (by omega)
    obtain ⟨mg, rg, fin⟩ := base g gJ
    by_cases qk : 0 ≤ a2 ∧ a2 < (((cgL tb n ar).length : Nat) : Int)
    · by_cases ql : 0 ≤ a3 ∧ a3 < (((cgL tb n ar).length : Nat) : Int)
      · obtain ⟨k, rfl⟩ : ∃ t : Nat, a2 = (t : Int) := ⟨a2.toNat, by omega⟩
        obtain ⟨l, rfl⟩ : ∃ t : Nat, a3 = (t : Int) := ⟨a3.toNat, by omega⟩
        obtain ⟨u, hu⟩ : ∃ x, (cgL tb n ar)[k]? = some x := ⟨_, List.getElem?_eq_getElem (show k < _ by omega)⟩
        obtain ⟨v, hv⟩ : ∃ x, (cgL tb n ar)[l]? = some x := ⟨_, List.getElem?_eq_getElem (show l < _ by omega)⟩
        obtain ⟨u1, u2, u3, u4⟩ := cgL_ok hn u (List.mem_of_getElem? hu)
        obtain ⟨v1, v2, v3, v4⟩ := cgL_ok hn v (List.mem_of_getElem? hv)
        -- the class's answer
        have cls : ∃ (hJ : HF) (y : List Nat) (j0 : Nat), (if a4 = 0 then zbd (fX2_below F 94 (k : Int) (l : Int) g) fun r6 h => some (r6, h) else zbd (fX2_above F 94 (k : Int) (l : Int) g) fun r7 h => some (r7, h)) = some ((j0 : Int), hJ) ∧ (cgL tb n ar)[j0]? = some y ∧ (∀ j, j < j0 → (cgL tb n ar)[j]? ≠ some y) ∧ PLn n y ∧ bdP n a4 u v y = true ∧ (∀ z, PLn n z → bdP n a4 u v z = true → crs n y z) ∧ ∀ c i, c ≠ 96 → c ≠ 97 → hJ c i = g c i := by
          by_cases qw : a4 = 0
          · obtain ⟨hJ, j0, x1, x2, x3, x4⟩ := below_eq (F := F) (A := 117 + 4 * d) (h := g) (by omega) (by omega) hw cg g2 g3 g4 hu hv
            refine ⟨hJ, mtL n u v, j0, by rw [if_pos qw, x1, zbd_some], x2, x3, mt_PLn, ?_, fun z hz hb => ?_, x4⟩
            · unfold bdP
              rw [if_pos qw, jbB_iff]
              exact fun a b ha hb => (mt_iff ha hb).symm
            · unfold bdP at hb
              rw [if_pos qw, jbB_iff] at hb
              intro p hp
              have hbp := (mt_PLn (n := n) (u := u) (v := v)).2.1 p
              exact (hb _ p (by omega) hp).mp ((mt_iff (by omega) hp).mp (ln_idem mt_PLn.2.2 hp))
          · obtain ⟨hJ, y, j0, x1, x2, x3, x4, x5, x6, x7, x8⟩ := above_eq (F := F) (A := 117 + 4 * d) (h := g) (by omega) (by omega) hw cg g2 g3 g4 hu hv
            refine ⟨hJ, y, j0, by rw [if_neg qw, x1, zbd_some], x2, x3, x4, ?_, fun z hz hb => ?_, x8⟩
            · unfold bdP
              rw [if_neg qw, jsB_iff.mpr x5, jsB_iff.mpr x6]; rfl
            · unfold bdP at hb
              rw [if_neg qw, Bool.and_eq_true, jsB_iff, jsB_iff] at hb
              exact x7 z hz hb.1 hb.2
        obtain ⟨hJ, y, j0, y1, y2, y3, y4, y5, y6, y7⟩ := cls
        obtain ⟨mJ, rJ, finJ⟩ := base hJ (fun c k z => by rw [y7 _ _ (by omega) (by omega), gJ _ _ z])
        -- the reference
        rcases findC_eq (F := F) (u := (k : Int)) hF (show d < 10 by omega) hw mJ with ⟨f1, j1, x1, p1, p2, p3, p4, p5⟩ | ⟨f1, p1, _, _, _⟩
        · obtain rfl : k = j1 := by omega
          obtain rfl : u = x1 := by rw [hu] at p1; simpa using p1
          obtain ⟨f2, b1, b2, b3⟩ := copyLine_eq (F := F) (n := n) (c := 208) (h := f1) (by omega) (Or.inl rfl) hn.2 u1 p4
          have m2 : RepM f2 184 185 186 187 d n ar tb := RepM_row hd hw (fun c q hq => by rw [b3 _ _ (by omega), p5 _ _ (by omega) (by omega)]) mJ
          rcases findC_eq (F := F) (u := (l : Int)) hF (show d < 10 by omega) hw m2 with ⟨f3, j2, x2, s1, s2, s3, s4, s5⟩ | ⟨f3, s1, _, _, _⟩
          · obtain rfl : l = j2 := by omega
            obtain rfl : v = x2 := by rw [hv] at s1; simpa using s1
            obtain ⟨f4, c1, c2, c3⟩ := copyLine_eq (F := F) (n := n) (c := 209) (h := f3) (by omega) (Or.inr rfl) hn.2 v1 s4
            generalize hk : fil f4 207 0 7 0 = g0
            have gf : ∀ c' i', c' ≠ 207 → g0 c' i' = f4 c' i' := fun c' i' h1 => by rw [← hk, fil_off (by omega)]
            have gL : LN g0 207 (List.replicate n 0) := fun i hi => by
              rw [List.length_replicate] at hi
              rw [zer_get, ← hk, fil_in (by omega)]; rfl
            have m0 : RepM g0 184 185 186 187 d n ar tb := RepM_row hd hw (fun c q hq => by rw [gf _ _ (by omega), c3 _ _ (by omega), s5 _ _ (by omega) (by omega)]) m2
            obtain ⟨h4, e1, e2⟩ := bound_L (F := F) (d := d) (w := a4) (by omega) (by omega) hw ⟨u1, u2, u3⟩ ⟨v1, v2, v3⟩ (k := fun x h => some (x, h)) 5040 (List.replicate n 0) F 0 0 (-1) g0 (sq_endM n (by omega) hn.1) (by omega) (by omega) gL List.length_replicate (zer_BD n) m0 (LN_keep (fun i => by rw [gf _ _ (by decide), c3 _ _ (by decide), s5 _ _ (by decide) (by omega)]) b2) (LN_keep (fun i => gf _ _ (by decide)) c2)
            rw [cgL_M hn] at e1
            have best : bstF (bdP n a4 u v) (fun l => bc (lds n l) n) (cgL tb n ar) 0 (-1) 0 = ((0 + j0 : Nat) : Int) := by
              refine bst_first (y := y) y5 (cgL tb n ar) j0 0 (-1) 0 y2 (fun j' z hj' hz hPz => ?_) (fun z hz hPz => ?_) (by have := lds_pos y4 hn.1; omega)
              · obtain ⟨z1, z2, z3, z4⟩ := cgL_ok hn z (List.mem_of_getElem? hz)
                have cr := crs_eq y4 ⟨z1, z2, z3⟩ (y6 z ⟨z1, z2, z3⟩ hPz)
                exact Nat.lt_of_le_of_ne cr.1 (fun e => y3 j' hj' (by rw [hz, cr.2 e]))
              · obtain ⟨z1, z2, z3, z4⟩ := cgL_ok hn z hz
                exact (crs_eq y4 ⟨z1, z2, z3⟩ (y6 z ⟨z1, z2, z3⟩ hPz)).1
            rw [best, Nat.zero_add] at e1
            refine ⟨(j0 : Int), hJ, h4, ?_, ?_, finJ h4 (fun c i q1 q2 q3 q4 => by rw [e2 _ _ q1, gf _ _ q1, c3 _ _ q3, s5 _ _ q1 q4, b3 _ _ q2, p5 _ _ q1 q4])⟩
            · rw [refuse_c hD, zbd_some, if_pos q, drw_at hd, show fX2_gather F (0 + 94) (117 + 4 * d) h = _ from g1, zbd_some, show fX2_has F (0 + 94) (k : Int) g = _ from has_eq g3, zbd_some, bl_pos qk, if_neg (by decide), show fX2_has F (0 + 94) (l : Int) g = _ from has_eq g3, zbd_some, bl_pos ql, if_neg (by decide)]
              exact y1
            · rw [refuse_m, zbd_some, rJ, if_pos rfl, msz (by omega) mJ, if_neg (by omega), if_neg (by omega), p3, zbd_some, if_neg (by decide), show fX12_copyLine F 181 (181 + 27) f1 = _ from b1, zbd_some, s3, zbd_some, if_neg (by decide), show fX12_copyLine F 181 (181 + 28) f3 = _ from c1, zbd_some, firstLine_eq (by omega), zbd_some, hk]
              exact e1
          · omega
        · omega
      · -- the second isn't there
        have cl : ∀ X Y : RO, True := fun _ _ => trivial
        have ref : ∃ h4, (zbd (fX12_refuse F 181 (d : Int) (stp g 181 0 0)) fun r1 h => if r1 = 0 then zrd h (181 + 3) (d : Int) fun x2 => if a2 < 0 then some (-3, h) else if a3 < 0 then some (-3, h) else zbd (fX12_findCongruence F 181 (d : Int) a2 h) fun r3 h => if r3 = 0 then some (-3, h) else zbd (fX12_copyLine F 181 (181 + 27) h) fun _ h => zbd (fX12_findCongruence F 181 (d : Int) a3 h) fun r5 h => if r5 = 0 then some (-3, h) else zbd (fX12_copyLine F 181 (181 + 28) h) fun _ h => zbd (fX12_firstLine F 181 h) fun _ h => LX12_bound_92 F 181 (d : Int) a4 x2 (fun x203_8 h => some (x203_8, h)) F 0 (-1) 0 1 h else some (r1, h)) = some (-3, h4) ∧ InvP I4d I5d I6 h4 := by
          rw [refuse_m, zbd_some, rg, if_pos rfl, msz (by omega) mg, if_neg (by omega)]
          by_cases q3 : a3 < 0
          · rw [if_pos q3]
            exact ⟨_, rfl, fin _ (fun _ _ _ _ _ _ => rfl)⟩
          · rw [if_neg q3]
            rcases findC_eq (F := F) (u := a2) hF (show d < 10 by omega) hw mg with ⟨f1, j1, x1, p1, p2, p3, p4, p5⟩ | ⟨f1, p1, _, _, _⟩
            · obtain ⟨x11, x12, x13, x14⟩ := cgL_ok hn x1 (List.mem_of_getElem? p1)
              obtain ⟨f2, b1, b2, b3⟩ := copyLine_eq (F := F) (n := n) (c := 208) (h := f1) (by omega) (Or.inl rfl) hn.2 x11 p4
              have m2 : RepM f2 184 185 186 187 d n ar tb := RepM_row hd hw (fun c q hq => by rw [b3 _ _ (by omega), p5 _ _ (by omega) (by omega)]) mg
              rw [p3, zbd_some, if_neg (by decide), show fX12_copyLine F 181 (181 + 27) f1 = _ from b1, zbd_some]
              rcases findC_eq (F := F) (u := a3) hF (show d < 10 by omega) hw m2 with ⟨f3, j2, x2, s1, s2, s3, s4, s5⟩ | ⟨f3, s1, s2, s3, s4⟩
              · have := lt j2 x2 s1
                omega
              · rw [s2, zbd_some, if_pos rfl]
                exact ⟨f3, rfl, fin _ (fun c i q1 q2 q3 q4 => by rw [s4 _ _ q1 q4, b3 _ _ q2, p5 _ _ q1 q4])⟩
            · omega
        obtain ⟨h4, e4, i4⟩ := ref
        refine ⟨-3, g, h4, ?_, e4, i4⟩
        rw [refuse_c hD, zbd_some, if_pos q, drw_at hd, show fX2_gather F (0 + 94) (117 + 4 * d) h = _ from g1, zbd_some, show fX2_has F (0 + 94) a2 g = _ from has_eq g3, zbd_some, bl_pos qk, if_neg (by decide), show fX2_has F (0 + 94) a3 g = _ from has_eq g3, zbd_some, bl_neg ql, if_pos rfl]
    · have ref : ∃ h4, (zbd (fX12_refuse F 181 (d : Int) (stp g 181 0 0)) fun r1 h => if r1 = 0 then zrd h (181 + 3) (d : Int) fun x2 => if a2 < 0 then some (-3, h) else if a3 < 0 then some (-3, h) else zbd (fX12_findCongruence F 181 (d : Int) a2 h) fun r3 h => if r3 = 0 then some (-3, h) else zbd (fX12_copyLine F 181 (181 + 27) h) fun _ h => zbd (fX12_findCongruence F 181 (d : Int) a3 h) fun r5 h => if r5 = 0 then some (-3, h) else zbd (fX12_copyLine F 181 (181 + 28) h) fun _ h => zbd (fX12_firstLine F 181 h) fun _ h => LX12_bound_92 F 181 (d : Int) a4 x2 (fun x203_8 h => some (x203_8, h)) F 0 (-1) 0 1 h else some (r1, h)) = some (-3, h4) ∧ InvP I4d I5d I6 h4 := by
        rw [refuse_m, zbd_some, rg, if_pos rfl, msz (by omega) mg]
        by_cases q2 : a2 < 0
        · rw [if_pos q2]
          exact ⟨_, rfl, fin _ (fun _ _ _ _ _ _ => rfl)⟩
        · rw [if_neg q2]
          by_cases q3 : a3 < 0
          · rw [if_pos q3]
            exact ⟨_, rfl, fin _ (fun _ _ _ _ _ _ => rfl)⟩
          · rw [if_neg q3]
            rcases findC_eq (F := F) (u := a2) hF (show d < 10 by omega) hw mg with ⟨f1, j1, x1, p1, p2, p3, p4, p5⟩ | ⟨f1, p1, p2, p3, p4⟩
            · have := lt j1 x1 p1
              omega
            · rw [p2, zbd_some, if_pos rfl]
              exact ⟨f1, rfl, fin _ (fun c i q1 _ _ q4 => p4 _ _ q1 q4)⟩
      obtain ⟨h4, e4, i4⟩ := ref
      refine ⟨-3, g, h4, ?_, e4, i4⟩
      rw [refuse_c hD, zbd_some, if_pos q, drw_at hd, show fX2_gather F (0 + 94) (117 + 4 * d) h = _ from g1, zbd_some, show fX2_has F (0 + 94) a2 g = _ from has_eq g3, zbd_some, bl_neg qk, if_pos rfl]
  · refine ⟨rfs h a1, h, stp h 181 0 0, ?_, ?_, hI'⟩
    · rw [refuse_c hD, zbd_some, if_neg q]
    · rw [refuse_m, zbd_some, rfs_thrown, if_neg q]
