/-! map, alike -/
/-- all maps of a what, in order -/
def MP (tb tb2 : Nat → Nat → Int) (n n2 : Nat) (ar : List Nat) (what : Nat) : List (List Nat) := RM (goB tb tb2 n n2 ar) (whB what n2) n2 n []
theorem MP_len {tb tb2 : Nat → Nat → Int} {n n2 : Nat} {ar : List Nat} {what : Nat} (hn : n ≤ 7) (hn2 : n2 ≤ 7) : (MP tb tb2 n n2 ar what).length ≤ 823543 := Nat.le_trans (RM_len hn2 n []) (pow7 n hn)
theorem zpz_0 {h : HF} {a k : Nat} {f : HF → RO} : zpz h a k 0 f = f (stp h a k 0) := if_pos (Or.inl rfl)
theorem zpz_1 {h : HF} {a k : Nat} {f : HF → RO} : zpz h a k 1 f = f (stp h a k 1) := if_pos (Or.inr rfl)
theorem us_nil : usB [] = 0 := by decide
section SK
variable {F n n2 d e : Nat} {ar : List Nat} {tb tb2 : Nat → Nat → Int} {w : Int}
theorem seek_c {A B what : Nat} {h : HF} (hF : 200 ≤ F) (hA : 117 ≤ A) (hB : 117 ≤ B) (hkA : kt A = 0 + 3) (hkB : kt B = 0 + 3) (hw1 : WF n ar tb) (hw2 : WF n2 ar tb2) (hwh : what < 4) (hr : RepC h A n ar tb) (hr2 : RepC h B n2 ar tb2) (hw : -1 ≤ w) : ∃ h', fX7_seek F 98 A B (what : Int) w h = some (h' 98 7, h') ∧ Fnd (MP tb tb2 n n2 ar what) 0 w n h' ∧ ∀ c i, (c < 98 ∨ 104 < c) → h' c i = h c i := by
  have hn := hw1.1
  have hn2 := hw2.1
  generalize hh0 : stp (stp (stp (stp (stp (stp (stp h 98 2 (A : Int)) 98 3 (B : Int)) 98 4 w) 98 5 (bi (decide (what = 1 ∨ what = 3)))) 98 6 (bi (decide (what = 2 ∨ what = 3)))) 98 7 0) 98 0 0 = h0
  have k0 : ∀ c i, c ≠ 98 → h0 c i = h c i := fun c i z => by rw [← hh0, stp_ne (Or.inl z), stp_ne (Or.inl z), stp_ne (Or.inl z), stp_ne (Or.inl z), stp_ne (Or.inl z), stp_ne (Or.inl z), stp_ne (Or.inl z)]
  have f2 : h0 98 2 = (A : Int) := by rw [← hh0, stp_ne (by omega), stp_ne (by omega), stp_ne (by omega), stp_ne (by omega), stp_ne (by omega), stp_ne (by omega), stp_eq]
  have f3 : h0 98 3 = (B : Int) := by rw [← hh0, stp_ne (by omega), stp_ne (by omega), stp_ne (by omega), stp_ne (by omega), stp_ne (by omega), stp_eq]
  have f4 : h0 98 4 = w := by rw [← hh0, stp_ne (by omega), stp_ne (by omega), stp_ne (by omega), stp_ne (by omega), stp_eq]
  have f5 : h0 98 5 = bi (decide (what = 1 ∨ what = 3)) := by rw [← hh0, stp_ne (by omega), stp_ne (by omega), stp_ne (by omega), stp_eq]
  have f6 : h0 98 6 = bi (decide (what = 2 ∨ what = 3)) := by rw [← hh0, stp_ne (by omega), stp_ne (by omega), stp_eq]
  have f7 : h0 98 7 = 0 := by rw [← hh0, stp_ne (by omega), stp_eq]
  have f0 : h0 98 0 = 0 := by rw [← hh0, stp_eq]
  obtain ⟨h1, x1, x2, x3⟩ := sortCells_eq (F := F) (by omega) hA hkA hw1 f2 (RepC_keep (fun i k hi => k0 _ _ (by omega)) hr)
  have E1 : EXc h1 A B n n2 ar tb tb2 (decide (what = 1 ∨ what = 3)) (decide (what = 2 ∨ what = 3)) w := ⟨⟨by rw [x3 _ _ (by omega) (by omega)]; exact f2, by rw [x3 _ _ (by omega) (by omega)]; exact f3, by rw [x3 _ _ (by omega) (by omega)]; exact f4, by rw [x3 _ _ (by omega) (by omega)]; exact f5, by rw [x3 _ _ (by omega) (by omega)]; exact f6⟩, RepC_keep (fun i k hi => by rw [x3 _ _ (by omega) (by omega), k0 _ _ (by omega)]) hr, RepC_keep (fun i k hi => by rw [x3 _ _ (by omega) (by omega), k0 _ _ (by omega)]) hr2, x2⟩
  have eqM : CM (qB tb tb2 n n2 ar) (skp (decide (what = 1 ∨ what = 3)) (decide (what = 2 ∨ what = 3)) n2) n2 n [] = MP tb tb2 n n2 ar what := CM_RM hw1 hw2 hwh n [] (by simp) (fun v hv => absurd hv (by simp)) go_nil (fun _ => by simp) (fun z => absurd z (by omega))
  have len := MP_len (tb := tb) (tb2 := tb2) (ar := ar) (what := what) hn.2 hn2.2
  obtain ⟨h2, y1, y2, -, y4⟩ := ext_c (F := F) hF hA hB hkB hw1 hw2 n 10 [] 0 h1 (by omega) (by simp) (fun i hi => absurd hi (by simp)) E1 (fun i hi => absurd hi (by simp)) (by rw [x3 _ _ (by omega) (by omega)]; exact f0) (by rw [x3 _ _ (by omega) (by omega)]; exact f7) (by rw [eqM]; omega) (by omega)
  rw [eqM] at y2
  rw [us_nil] at y1
  have y1' : fX7_extend F 10 98 0 0 h1 = some (0, h2) := y1
  refine ⟨h2, ?_, y2, fun c i z => by rw [y4 c i (by omega) (by omega), x3 c i (by omega) (by omega), k0 c i (by omega)]⟩
  have m7 : h2 98 7 = 0 ∨ h2 98 7 = 1 := by
    rcases y2 with ⟨_, _, _, _, z, _⟩ | ⟨_, z, _⟩
    · exact Or.inr z
    · exact Or.inl z
  have fin : (zbd (fX7_sortCells F 98 h0) fun _ h => zbd (fX7_extend F 10 98 0 0 h) fun _ h => zgf h 98 7 fun x3 => zrz x3 h) = some (h2 98 7, h2) := by
    rw [x1, zbd_some, y1', zbd_some, zgf_eq]
    unfold zrz
    rw [if_pos m7]
  unfold fX7_seek
  rw [zpf_eq, zpf_eq, zpf_eq]
  simp only [zjn_eq]
  have e1 : what = 0 ∨ what = 1 ∨ what = 2 ∨ what = 3 := by omega
  rcases e1 with rfl | rfl | rfl | rfl
  · rw [if_pos (show wand ((0 : Nat) : Int) 1 = 0 by decide), zpz_0, if_pos (show wand ((0 : Nat) : Int) 2 = 0 by decide), zpz_0, zpz_0, zpf_eq]
    exact hh0 ▸ fin
  · rw [if_neg (show ¬ wand ((1 : Nat) : Int) 1 = 0 by decide), zpz_1, if_pos (show wand ((1 : Nat) : Int) 2 = 0 by decide), zpz_0, zpz_0, zpf_eq]
    exact hh0 ▸ fin
  · rw [if_pos (show wand ((2 : Nat) : Int) 1 = 0 by decide), zpz_0, if_neg (show ¬ wand ((2 : Nat) : Int) 2 = 0 by decide), zpz_1, zpz_0, zpf_eq]
    exact hh0 ▸ fin
  · rw [if_neg (show ¬ wand ((3 : Nat) : Int) 1 = 0 by decide), zpz_1, if_neg (show ¬ wand ((3 : Nat) : Int) 2 = 0 by decide), zpz_1, zpz_0, zpf_eq]
    exact hh0 ▸ fin
theorem find_m {what : Nat} {h : HF} (hF : 200 ≤ F) (hd : d < 10) (he : e < 10) (hw1 : WF n ar tb) (hw2 : WF n2 ar tb2) (hwh : what < 4) (hr : RepM h 184 185 186 187 d n ar tb) (hr2 : RepM h 184 185 186 187 e n2 ar tb2) (hw : -1 ≤ w) : ∃ r h', fX12_findMap F 181 (d : Int) (e : Int) (what : Int) w h = some (r, h') ∧ FndM (MP tb tb2 n n2 ar what) 0 w r h' ∧ ∀ c i, c ≠ 210 → (c ≠ 181 ∨ (i ≠ 43 ∧ i ≠ 47)) → h' c i = h c i := by
  have hn := hw1.1
  have hn2 := hw2.1
  have len := MP_len (tb := tb) (tb2 := tb2) (ar := ar) (what := what) hn.2 hn2.2
  have M0 : MXm (stp (stp h 181 43 0) 181 47 w) d e n n2 ar tb tb2 w := ⟨RepM_keep (fun k => ⟨by rw [stp_ne (by omega), stp_ne (by omega)], by rw [stp_ne (by omega), stp_ne (by omega)], by rw [stp_ne (by omega), stp_ne (by omega)], by rw [stp_ne (by omega), stp_ne (by omega)]⟩) hr, RepM_keep (fun k => ⟨by rw [stp_ne (by omega), stp_ne (by omega)], by rw [stp_ne (by omega), stp_ne (by omega)], by rw [stp_ne (by omega), stp_ne (by omega)], by rw [stp_ne (by omega), stp_ne (by omega)]⟩) hr2, stp_eq _ _ _ _⟩
  obtain ⟨r, h2, y1, y2, -, y4⟩ := maps_m (F := F) hF hd he hw1 hw2 hwh n 10 [] 0 (stp (stp h 181 43 0) 181 47 w) (by omega) (by simp) (fun i hi => absurd hi (by simp)) M0 (fun i hi => absurd hi (by simp)) (by rw [stp_ne (by omega), stp_eq]; rfl) (by show 0 + (MP tb tb2 n n2 ar what).length ≤ _; omega) (by omega)
  have y1' : fX12_maps F 10 181 (d : Int) (e : Int) (what : Int) 0 (stp (stp h 181 43 0) 181 47 w) = some (r, h2) := y1
  refine ⟨r, h2, ?_, y2, fun c i z y => by rw [y4 c i z (by omega), stp_ne (by omega), stp_ne (by omega)]⟩
  unfold fX12_findMap
  rw [zpf_eq, zpf_eq, y1', zbd_some]
  have r01 : r = 0 ∨ r = 1 := by
    rcases y2 with ⟨z, _⟩ | ⟨z, _⟩
    · exact Or.inr z
    · exact Or.inl z
  unfold zrz
  rw [if_pos r01]
end SK
/-- the refusals of two drawers, on both sides; or what they hold -/
theorem pair2 {F : Nat} {x y : Int} {h : HF} (hF : 8 ≤ F) (hD : ∀ d, d < 8 → DR h d) :
    (∃ r : Int, r ≠ 0 ∧ fX11_refusePair F 0 x y h = some (r, h) ∧ ∀ g : HF, (∀ c i, 182 ≤ c → g c i = h c i) → fX12_refuseTwoDrawers F 181 x y g = some (r, g))
    ∨ ∃ (d e n n2 : Nat) (ar : List Nat) (tb tb2 : Nat → Nat → Int), x = (d : Int) ∧ y = (e : Int) ∧ d < 8 ∧ e < 8 ∧ WF n ar tb ∧ WF n2 ar tb2 ∧ RepC h (117 + 4 * d) n ar tb ∧ RepC h (117 + 4 * e) n2 ar tb2 ∧ fX11_refusePair F 0 x y h = some (0, h) ∧ ∀ g : HF, (∀ c i, 182 ≤ c → g c i = h c i) → RepM g 184 185 186 187 d n ar tb ∧ RepM g 184 185 186 187 e n2 ar tb2 ∧ fX12_refuseTwoDrawers F 181 x y g = some (0, g) := by
  rcases pair (F := F) (x := x) (y := y) hD with ⟨z, c1⟩ | ⟨d, e, rfl, rfl, hd, he, z, c1⟩ | ⟨d, e, n, n2, ar, ar', tb, tb', rfl, rfl, hd, he, hw, hc, hm, hw', hc', hm', c1⟩
  · refine Or.inl ⟨-3, by decide, c1, fun g tk => ?_⟩
    unfold fX12_refuseTwoDrawers
    rw [isDrawer_m, zbd_some, zjn_eq]
    by_cases q1 : 0 ≤ x ∧ x < 8
    · rw [bl_pos q1, if_neg (show ¬ (1 : Int) = 0 by decide), isDrawer_m, zbd_some, bl_neg (fun q2 => z ⟨q1, q2⟩), if_pos rfl]
    · rw [bl_neg q1, if_pos rfl]
  · refine Or.inl ⟨-2, by decide, c1, fun g tk => ?_⟩
    unfold fX12_refuseTwoDrawers
    rw [isDrawer_m, zbd_some, zjn_eq, bl_pos (show 0 ≤ (d : Int) ∧ (d : Int) < 8 by omega), if_neg (show ¬ (1 : Int) = 0 by decide), isDrawer_m, zbd_some, bl_pos (show 0 ≤ (e : Int) ∧ (e : Int) < 8 by omega), if_neg (show ¬ (1 : Int) = 0 by decide), rdm3 (by omega), zjn_eq, zjn_eq, rdm3 (by omega), tk _ _ (by omega), tk _ _ (by omega)]
    rcases z with z | z
    · rw [if_pos z]
    · by_cases z1 : h 184 d = 0
      · rw [if_pos z1]
      · rw [if_neg z1, if_pos z]
  · have hM : ∀ g : HF, (∀ c i, 182 ≤ c → g c i = h c i) → RepM g 184 185 186 187 d n ar tb ∧ RepM g 184 185 186 187 e n2 ar' tb' := fun g tk => ⟨RepM_keep (fun k => ⟨tk _ _ (by omega), tk _ _ (by omega), tk _ _ (by omega), tk _ _ (by omega)⟩) hm, RepM_keep (fun k => ⟨tk _ _ (by omega), tk _ _ (by omega), tk _ _ (by omega), tk _ _ (by omega)⟩) hm'⟩
    have n1 := hw.1.1
    have n2' := hw'.1.1
    have ref : ∀ g : HF, (∀ c i, 182 ≤ c → g c i = h c i) → fX12_refuseTwoDrawers F 181 (d : Int) (e : Int) g = some (if ar = ar' then 0 else -4, g) := fun g tk => by
      obtain ⟨m1, m2⟩ := hM g tk
      unfold fX12_refuseTwoDrawers
      rw [isDrawer_m, zbd_some, zjn_eq, bl_pos (show 0 ≤ (d : Int) ∧ (d : Int) < 8 by omega), if_neg (show ¬ (1 : Int) = 0 by decide), isDrawer_m, zbd_some, bl_pos (show 0 ≤ (e : Int) ∧ (e : Int) < 8 by omega), if_neg (show ¬ (1 : Int) = 0 by decide), msz (by omega) m1, zjn_eq, zjn_eq, if_neg (by omega), msz (by omega) m2, if_neg (by omega), oneSig_eq hF (by omega) (by omega) hw hw' m1 m2, zbd_some]
      by_cases q : ar = ar'
      · rw [if_pos q, if_pos q, if_neg (show ¬ (1 : Int) = 0 by decide)]
      · rw [if_neg q, if_neg q, if_pos rfl]
    by_cases q : ar = ar'
    · subst q
      rw [if_pos rfl] at c1
      refine Or.inr ⟨d, e, n, n2, ar, tb, tb', rfl, rfl, hd, he, hw, hw', hc, hc', c1, fun g tk => ⟨(hM g tk).1, (hM g tk).2, ?_⟩⟩
      rw [ref g tk, if_pos rfl]
    · rw [if_neg q] at c1
      refine Or.inl ⟨-4, by decide, c1, fun g tk => ?_⟩
      rw [ref g tk, if_neg q]
theorem RM_lt {P W : List Nat → Bool} {n2 k : Nat} {x : List Nat} (h : x ∈ RM P W n2 k []) : x.length = k ∧ ∀ i, i < x.length → x.getD i 0 < n2 := by
  obtain ⟨_, s, h2, h3, h4⟩ := RM_ext k [] x h
  rw [List.nil_append] at h2
  subst h2
  refine ⟨h3, fun i hi => h4 _ ?_⟩
  rw [List.getD_eq_getElem?_getD, List.getElem?_eq_getElem hi]
  exact List.getElem_mem hi
theorem ps_map {I6 : HF → Prop} {F : Nat} (hF : 200 ≤ F) : PS_map F (InvP I4d I5d I6) := by
  intro h a1 a2 a3 a4 hI _ _ _ _
  have hD : ∀ d, d < 8 → DR h d := fun d hd => I4d_get hI.2.2.2.1 hd
  unfold fX11_map fX12_map
  rcases pair2 (F := F) (x := a1) (y := a2) (by omega) hD with ⟨r, r0, x1, x2⟩ | ⟨d, e, n, n2, ar, tb, tb2, rfl, rfl, hd, he, hw1, hw2, c1, c2, x1, x2⟩
  · refine ⟨r, h, stp h 181 0 0, ?_, ?_, Inv_thrown hI⟩
    · rw [x1, zbd_some, if_neg r0]
    · rw [zpf_eq, x2 _ (fun c i z => stp_ne (by omega)), zbd_some, if_neg r0]
  · by_cases q : 0 ≤ a3 ∧ a3 ≤ 3 ∧ -1 ≤ a4
    · obtain ⟨what, rfl⟩ : ∃ w : Nat, a3 = (w : Int) := ⟨a3.toNat, by omega⟩
      obtain ⟨h1, y1, y2, y3⟩ := seek_c (F := F) (A := 117 + 4 * d) (B := 117 + 4 * e) (what := what) (w := a4) hF (by omega) (by omega) (kt_drw d hd) (kt_drw e he) hw1 hw2 (by omega) c1 c2 q.2.2
      obtain ⟨m1, m2, z1⟩ := x2 (stp h1 181 0 0) (fun c i z => by rw [stp_ne (by omega), y3 c i (by omega)])
      obtain ⟨r, h2, w1, w2, w3⟩ := find_m (F := F) (what := what) (w := a4) hF (show d < 10 by omega) (show e < 10 by omega) hw1 hw2 (by omega) m1 m2 q.2.2
      have fin : InvP I4d I5d I6 h2 := Inv_while hI (fun c k z => by rw [w3 c k (by omega) (by omega), stp_ne (by omega), y3 c k (by omega)])
      have cC : ∀ (r : Int) (g : HF), (if a4 = -1 then some (h1 98 0, h1) else if h1 98 7 = 0 then some (-3, h1) else some (h1 98 1, h1)) = some (r, g) → (zbd (fX11_refusePair F 0 (d : Int) (e : Int) h) fun r1 h => if r1 = 0 then zjn (fun h => some (-3, h)) fun j31 => if (what : Int) < 0 then j31 h else if 3 < (what : Int) then j31 h else if a4 < -1 then j31 h else zrs (0 + 5) (d : Int) fun x2 => zrs (0 + 5) (e : Int) fun x3 => zbd (fX7_seek F (0 + 98) x2 x3 (what : Int) a4 h) fun r4 h => if a4 = -1 then zgf h (0 + 98) 0 fun x5 => some (x5, h) else zjn (fun y89_0 h => some (y89_0, h)) fun j89 => if r4 = 0 then j89 (-3) h else zgf h (0 + 98) 1 fun x6 => j89 x6 h else some (r1, h)) = some (r, g) := fun r g e0 => by
        rw [x1, zbd_some, if_pos rfl, zjn_eq, if_neg (by omega), if_neg (by omega), if_neg (by omega), drw_at hd, drw_at he, show fX7_seek F (0 + 98) (117 + 4 * d) (117 + 4 * e) (what : Int) a4 h = some (h1 98 7, h1) from y1, zbd_some]
        exact e0
      have cM : ∀ (r' : Int) (g : HF), (if r = 0 then (if a4 = -1 then some (h2 181 43, h2) else some (-3, h2)) else (zrd h2 (181 + 3) (d : Int) fun x4 => zbd (fX12_told F 181 (181 + 29) x4 h2) fun r5 h => some (r5, h))) = some (r', g) → (zpf h1 181 0 0 fun h => zbd (fX12_refuseTwoDrawers F 181 (d : Int) (e : Int) h) fun r1 h => if r1 = 0 then zjn (fun h => some (-3, h)) fun j36 => if (what : Int) < 0 then j36 h else if 3 < (what : Int) then j36 h else if a4 < -1 then j36 h else zbd (fX12_findMap F 181 (d : Int) (e : Int) (what : Int) a4 h) fun r2 h => zjn (fun y87_0 h => some (y87_0, h)) fun j87 => if r2 = 0 then if a4 = -1 then zgf h 181 43 fun x3 => j87 x3 h else j87 (-3) h else zrd h (181 + 3) (d : Int) fun x4 => zbd (fX12_told F 181 (181 + 29) x4 h) fun r5 h => j87 r5 h else some (r1, h)) = some (r', g) := fun r' g e0 => by
        rw [zpf_eq, z1, zbd_some, if_pos rfl, zjn_eq, if_neg (by omega), if_neg (by omega), if_neg (by omega), w1, zbd_some, zjn_eq]
        exact e0
      rcases y2 with ⟨j, x, p1, p2, p3, p4⟩ | ⟨p1, p2, p3⟩
      · -- it is there
        rcases w2 with ⟨s0, j', x', s1, s2, s3⟩ | ⟨s0, s1, s2⟩
        · have ej : j' = j := by omega
          subst ej
          rw [p1] at s1
          injection s1 with s1
          subst s1
          have hx : x ∈ MP tb tb2 n n2 ar what := List.mem_of_getElem? p1
          obtain ⟨lx, vx⟩ := RM_lt hx
          have tl : fX12_told F 181 (181 + 29) (n : Int) h2 = some (((cdR x 0 0 n : Nat) : Int), h2) := told_eq (c := 210) (by omega) (by decide +kernel) s3 lx hw1.1.2 (fun i hi => by have := vx i (by omega); have := hw2.1; omega)
          have m2' : h2 184 d = (n : Int) := by rw [w3 _ _ (by omega) (by omega)]; exact m1.1
          refine ⟨(cdR x 0 0 n : Int), h1, h2, cC _ _ ?_, cM _ _ ?_, fin⟩
          · rw [if_neg (by omega), p3, if_neg (by decide), p4]
          · rw [s0, if_neg (by decide), rdm3 (by omega), m2', tl, zbd_some]
        · have hj : j < (MP tb tb2 n n2 ar what).length := by
            by_cases z : j < (MP tb tb2 n n2 ar what).length
            · exact z
            · rw [List.getElem?_eq_none (by omega)] at p1; cases p1
          omega
      · rcases w2 with ⟨s0, j', x', s1, s2, s3⟩ | ⟨s0, s1, s2⟩
        · have hj : j' < (MP tb tb2 n n2 ar what).length := by
            by_cases z : j' < (MP tb tb2 n n2 ar what).length
            · exact z
            · rw [List.getElem?_eq_none (by omega)] at s1; cases s1
          omega
        · by_cases q1 : a4 = -1
          · refine ⟨((0 + (MP tb tb2 n n2 ar what).length : Nat) : Int), h1, h2, cC _ _ ?_, cM _ _ ?_, fin⟩
            · rw [if_pos q1, p3]
            · rw [s0, if_pos rfl, if_pos q1, s2]
          · refine ⟨-3, h1, h2, cC _ _ ?_, cM _ _ ?_, fin⟩
            · rw [if_neg q1, if_pos p2]
            · rw [s0, if_pos rfl, if_neg q1]
    · refine ⟨-3, h, stp h 181 0 0, ?_, ?_, Inv_thrown hI⟩
      · rw [x1, zbd_some, if_pos rfl, zjn_eq]
        by_cases q1 : a3 < 0
        · rw [if_pos q1]
        · rw [if_neg q1]
          by_cases q2 : 3 < a3
          · rw [if_pos q2]
          · rw [if_neg q2, if_pos (by omega)]
      · obtain ⟨_, _, z1⟩ := x2 (stp h 181 0 0) (fun c i z => stp_ne (by omega))
        rw [zpf_eq, z1, zbd_some, if_pos rfl, zjn_eq]
        by_cases q1 : a3 < 0
        · rw [if_pos q1]
        · rw [if_neg q1]
          by_cases q2 : 3 < a3
          · rw [if_pos q2]
          · rw [if_neg q2, if_pos (by omega)]
