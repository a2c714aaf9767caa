/-! THE STEPS THAT ASK -/
section Asking
variable {h : Hp} {N w t B k : Nat} {E : List Nat} {es : List Evt} {P : Prg} {now : Int32} {W : Wkr}
theorem own_R (G : gtH h w es P k W) {q : Nat × Int32 × Int32} (hw : wkWish P (rpO es) now W = some q) : hR P es k = W := by
  obtain ⟨-, -, -, -, -, n, -, gr⟩ := G
  exact run_done (Or.inr (by rw [wkWish_now P (rpO es) 0 now, hw]; rfl)) gr
theorem own_st (C : gtC h N w t B E es P now) (G : gtH h w es P k W) {kd : Nat} {a b : Int32} (hw : wkWish P (rpO es) now W = some (kd, a, b)) (hkd : kd < 16) :
    ∃ r h1, f_X11_own 616 (nI w) (nI kd) a b (stH h (wkS W) (wkN W)) = some (r, h1) ∧ frx (gsS w) h h1 ∧ ((r = 0 ∧ gtZ h1 w es P now) ∨ (r = 1 ∧ h1 = pI (stH h (wkS W) (wkN W)) 1264 616 (nI (k + 1)) ∧ k < es.length ∧ (evAt es k).1 = kd ∧ kd < 10 ∧ hA P es (k + 1) = wkTake P W (evAt es k))) := by
  have f0 := stH_fr h w (wkS W) (wkN W)
  have R := own_R G hw
  obtain ⟨g1, g6, g5, ⟨gk1, gk⟩, -⟩ := G
  obtain ⟨⟨q1, q2, q3, q4, q5⟩, q6⟩ := gtF_stH g1
  obtain ⟨r, h1, e1, f1, d1⟩ := w_own_M (C.on f0) q2 q3 q4 q6 g6 gk1 gk R g5 hw hkd
  exact ⟨r, h1, e1, f0.trans f1, d1⟩
theorem own_at (C : gtC h N w t B E es P now) (G : gtH h w es P k W) {kd : Nat} {a b : Int32} (hw : wkWish P (rpO es) now W = some (kd, a, b)) (hkd : kd < 16) (h10 : 10 ≤ kd) :
    ∃ r h1, f_X11_own 616 (nI w) (nI kd) a b h = some (r, h1) ∧ frx (gsS w) h h1 ∧ gtN h1 w es P now k W := by
  have R := own_R G hw
  obtain ⟨g1, g6, g5, ⟨gk1, gk⟩, -⟩ := G
  obtain ⟨⟨q1, q2, q3, q4, q5⟩, q6⟩ := g1
  obtain ⟨r, h1, e1, f1, d1⟩ := w_own_M C q2 q3 q4 q6 g6 gk1 gk R g5 hw hkd
  refine ⟨r, h1, e1, f1, Or.inl ?_⟩
  rcases d1 with d1 | ⟨-, -, -, -, d, -⟩
  · exact d1.2
  · omega
theorem gt_more (hP : prgOK P) (hs : hsOK P es) {h1 : Hp} {k1 : Nat} {U : Wkr} (hk : k < k1) (hk1 : k1 ≤ es.length) (hU : hA P es k1 = U) (h5 : wkP U = 5) (f : gtF h1 w (wkS U) k1 (wkT U) (wkC U) (wkN U) (wkV U)) (h6 : zE h1 651 w = nI 6) (hW : wkN W ≤ 200) : gtN h1 w es P now k W := by
  have g := (wkG_all hP hs k1 (by omega) hk1).1
  rw [hU] at g
  refine Or.inr ⟨k1, U, ⟨f, h6, h5, ⟨by omega, hk1⟩, g, 201, by omega, by rw [hR_def, rpO_take (by omega), hU]⟩, ?_⟩
  have : (es.length - k1) * 300 + 300 ≤ (es.length - k) * 300 := by
    have : es.length - k1 + 1 ≤ es.length - k := by omega
    calc (es.length - k1) * 300 + 300 = (es.length - k1 + 1) * 300 := by omega
      _ ≤ (es.length - k) * 300 := Nat.mul_le_mul_right _ this
  omega
theorem wish_go (hS : wkS W < P.length) (hN : wkN W < 200) {o : Int32} : wkWish P o now W = (if (stpAt P (wkS W)).1 = 65 then some (1, (stpAt P (wkS W)).2.2.1, valOf (wkV W) (stpAt P (wkS W)).2.2.2.1)
    else if (stpAt P (wkS W)).1 = 84 then some (4, now + (if valOf (wkV W) (stpAt P (wkS W)).2.2.2.1 < 0 then 0 else valOf (wkV W) (stpAt P (wkS W)).2.2.2.1), 0)
    else if (stpAt P (wkS W)).1 = 67 then some (6, (stpAt P (wkS W)).2.2.1, valOf (wkV W) (stpAt P (wkS W)).2.2.2.1)
    else if (stpAt P (wkS W)).1 = 83 then (if hasKin o W (valOf (wkV W) (stpAt P (wkS W)).2.2.2.1) then some (9, valOf (wkV W) (stpAt P (wkS W)).2.2.2.1, valOf (wkV W) (stpAt P (wkS W)).2.2.2.2) else none)
    else if (stpAt P (wkS W)).1 = 69 then some (10, valOf (wkV W) (stpAt P (wkS W)).2.2.2.1, 0)
    else none) := by
  conv => lhs; unfold wkWish
  rw [if_neg (by omega), if_neg (by omega)]
/-- places of the heap at a step, as the asking step reads them -/
theorem ask_pl (C : gtC h N w t B E es P now) (hS : wkS W < P.length) : (nI (B + wkS W)).toNatClampNeg = B + wkS W ∧ ¬ nI (B + wkS W) < 0 ∧ ¬ 11100 ≤ B + wkS W := by
  obtain ⟨-, -, ⟨-, -, -, hB⟩, -⟩ := C
  exact ⟨zi_nat (by omega), zi_neg (by omega), by omega⟩
theorem wkT60 (C : gtC h N w t B E es P now) (G : gtH h w es P k W) : wkT W ≤ 60 := by
  have := G.2.2.2.2.1.2.2.1
  have h2 := sigs_le (es.take k)
  rw [List.length_take] at h2
  have := C.2.2.2.2.2.2.2.2.1
  omega
theorem s_6 (C : gtC h N w t B E es P now) (G : gtH h w es P k W) (hS : wkS W < P.length) (hN : wkN W < 200) (hop : zE h 624 (B + wkS W) = nI 6) (hc : (stpAt P (wkS W)).1 = 65) (hdg : zE h 630 (B + wkS W) = (stpAt P (wkS W)).2.2.1) (hx : ∀ V, vlOf V (zE h 626 (B + wkS W)) (zE h 627 (B + wkS W)) = valOf V (stpAt P (wkS W)).2.2.2.1) :
    ∃ h1, f_X11_goesStep 616 (nI w) h = some h1 ∧ frx (gsS w) h h1 ∧ gtN h1 w es P now k W := by
  obtain ⟨it, i1, i2, i3, ctx⟩ := gt_ctx C G hS hN
  obtain ⟨H, ev, ⟨hN6, hw64, -, hB⟩, -, -, -, hP, hs⟩ := id C
  have gN := G.2.2.2.2.1.2.1
  have hT : wkT W ≤ 60 := wkT60 C G
  rw [w_go_6 H ctx hop, hx]
  obtain ⟨nk, gk, lk⟩ := ask_pl (W := W) C hS
  have hw : wkWish P (rpO es) now W = some (1, (stpAt P (wkS W)).2.2.1, valOf (wkV W) (stpAt P (wkS W)).2.2.2.1) := by rw [wish_go hS hN, if_pos hc]
  have e6 : zE (stH h (wkS W) (wkN W)) 624 (B + wkS W) = nI 6 := hop
  have e30 : zE (stH h (wkS W) (wkN W)) 630 (B + wkS W) = (stpAt P (wkS W)).2.2.1 := hdg
  have H0 : RF (stH h (wkS W) (wkN W)) := RF_pI (RF_pI H _ _ _) _ _ _
  obtain ⟨r, h1, e1, f1, d1⟩ := own_st C G hw (by decide)
  rcases d1 with ⟨r0, z⟩ | ⟨r1, eh, hkl, hkd, -, hA1⟩
  · refine ⟨h1, ?_, f1, Or.inl z⟩
    rw [r0] at e1
    have e1 : f_X11_own 616 (nI w) 1 (stpAt P (wkS W)).2.2.1 (valOf (wkV W) (stpAt P (wkS W)).2.2.2.1) (stH h (wkS W) (wkN W)) = some (0, h1) := e1
    generalize stH h (wkS W) (wkN W) = hh at *
    have H := H0
    simp only [f_X11_asks, o10, o00, bh, isO, inR, ck_true, bind_some9, Nat.reduceLeDiff, Nat.reduceEqDiff, and_self, and_true, true_and, false_and, and_false, not_false_eq_true, not_true_eq_false, or_self, or_false, false_or, if_true, if_false, reduceIte, RF_o H, RF_1214 H, RO_624 H, RL_624 H, RF_1215 H, RO_625 H, RL_625 H, RF_1220 H, RO_630 H, RL_630 H, RF_1245 H, RO_653 H, RL_653 H, zR_pE, zT_pE, zL_pE, zn_pE, zE_pE, zI_pE, zR_pI, zT_pI, zL_pI, zn_pI, zE_pI, zI_pI, RF_1214 H0, RO_624 H0, RL_624 H0, nk, gk, lk, e6, ko_6_6, e30, e1, o00]
  · rw [r1] at e1
    have e1 : f_X11_own 616 (nI w) 1 (stpAt P (wkS W)).2.2.1 (valOf (wkV W) (stpAt P (wkS W)).2.2.2.1) (stH h (wkS W) (wkN W)) = some (1, h1) := e1
    have tk : wkTake P W (evAt es k) = wkRest W 0 0 := by unfold wkTake; rw [if_pos hkd]
    rw [tk] at hA1
    have hR1 : hR P es (k + 1) = wkRest W 0 0 := by rw [hR_wait (by rw [hA1]; show 0 ≠ 5; decide), hA1]
    have C1 := C.on f1
    have gF : gtF h1 w (wkS W + 1) (k + 1) (wkT W) (wkC W) (wkN W + 1) (wkV W) := by rw [eh]; exact gtF_seen (gtF_stH G.1) (k + 1)
    obtain ⟨h2, e2, f2, d2⟩ := w_waits (W := wkRest W 0 0) (how := 0) (child := 0) (v := it) C1.1 hw64 hN6 hs i3 (by omega) (Or.inl (i2 (by unfold stSets; rw [hc]; decide))) hS rfl (fun q => by omega) hT C1.2.1 gF (by omega) hkl hR1
    have e2 : f_X11_waits 616 (nI w) 0 0 (nI it) h1 = some h2 := e2
    refine ⟨h2, ?_, f1.trans (f2.mono (wtS_gs w)), wt_gtN hP hs d2 rfl (by omega) ?_ (fun q => by omega) (by omega) gN⟩
    · have e25 : zE h1 625 (B + wkS W) = nI it := by rw [eh]; exact i1
      have H1 := C1.1
      generalize stH h (wkS W) (wkN W) = hh at *
      have H := H0
      simp only [f_X11_asks, o10, o00, bh, isO, inR, ck_true, bind_some9, Nat.reduceLeDiff, Nat.reduceEqDiff, and_self, and_true, true_and, false_and, and_false, not_false_eq_true, not_true_eq_false, or_self, or_false, false_or, if_true, if_false, reduceIte, RF_o H, RF_1214 H, RO_624 H, RL_624 H, RF_1215 H, RO_625 H, RL_625 H, RF_1220 H, RO_630 H, RL_630 H, RF_1245 H, RO_653 H, RL_653 H, zR_pE, zT_pE, zL_pE, zn_pE, zE_pE, zI_pE, zR_pI, zT_pI, zL_pI, zn_pI, zE_pI, zI_pI, RF_o H1, RF_1215 H1, RO_625 H1, RL_625 H1, nk, gk, lk, e6, ko_6_6, e30, e1, o10, e25, e2]
    · rw [eh]; exact G.2.1
theorem s_8 (C : gtC h N w t B E es P now) (G : gtH h w es P k W) (hS : wkS W < P.length) (hN : wkN W < 200) (hop : zE h 624 (B + wkS W) = nI 8) (hc : (stpAt P (wkS W)).1 = 67) (hdg : zE h 630 (B + wkS W) = (stpAt P (wkS W)).2.2.1) (hx : ∀ V, vlOf V (zE h 626 (B + wkS W)) (zE h 627 (B + wkS W)) = valOf V (stpAt P (wkS W)).2.2.2.1) :
    ∃ h1, f_X11_goesStep 616 (nI w) h = some h1 ∧ frx (gsS w) h h1 ∧ gtN h1 w es P now k W := by
  obtain ⟨it, i1, i2, i3, ctx⟩ := gt_ctx C G hS hN
  obtain ⟨H, ev, ⟨hN6, hw64, -, hB⟩, -, -, -, hP, hs⟩ := id C
  have gN := G.2.2.2.2.1.2.1
  have hT : wkT W ≤ 60 := wkT60 C G
  have gG := G.2.2.2.2.1
  rw [w_go_8 H ctx hop, hx]
  obtain ⟨nk, gk, lk⟩ := ask_pl (W := W) C hS
  have hw : wkWish P (rpO es) now W = some (6, (stpAt P (wkS W)).2.2.1, valOf (wkV W) (stpAt P (wkS W)).2.2.2.1) := by rw [wish_go hS hN, if_neg (by rw [hc]; decide), if_neg (by rw [hc]; decide), if_pos hc]
  have e6 : zE (stH h (wkS W) (wkN W)) 624 (B + wkS W) = nI 8 := hop
  have e30 : zE (stH h (wkS W) (wkN W)) 630 (B + wkS W) = (stpAt P (wkS W)).2.2.1 := hdg
  have H0 : RF (stH h (wkS W) (wkN W)) := RF_pI (RF_pI H _ _ _) _ _ _
  obtain ⟨r, h1, e1, f1, d1⟩ := own_st C G hw (by decide)
  rcases d1 with ⟨r0, z⟩ | ⟨r1, eh, hkl, hkd, -, hA1⟩
  · refine ⟨h1, ?_, f1, Or.inl z⟩
    rw [r0] at e1
    have e1 : f_X11_own 616 (nI w) 6 (stpAt P (wkS W)).2.2.1 (valOf (wkV W) (stpAt P (wkS W)).2.2.2.1) (stH h (wkS W) (wkN W)) = some (0, h1) := e1
    generalize stH h (wkS W) (wkN W) = hh at *
    have H := H0
    simp only [f_X11_asks, o10, o00, bh, isO, inR, ck_true, bind_some9, Nat.reduceLeDiff, Nat.reduceEqDiff, and_self, and_true, true_and, false_and, and_false, not_false_eq_true, not_true_eq_false, or_self, or_false, false_or, if_true, if_false, reduceIte, RF_o H, RF_1214 H, RO_624 H, RL_624 H, RF_1215 H, RO_625 H, RL_625 H, RF_1220 H, RO_630 H, RL_630 H, RF_1245 H, RO_653 H, RL_653 H, zR_pE, zT_pE, zL_pE, zn_pE, zE_pE, zI_pE, zR_pI, zT_pI, zL_pI, zn_pI, zE_pI, zI_pI, nk, gk, lk, e6, ko_8_6, ko_8_7, ko_8_8, e30, e1, o00]
  · rw [r1] at e1
    have e1 : f_X11_own 616 (nI w) 6 (stpAt P (wkS W)).2.2.1 (valOf (wkV W) (stpAt P (wkS W)).2.2.2.1) (stH h (wkS W) (wkN W)) = some (1, h1) := e1
    have tk : wkTake P W (evAt es k) = wkBorn (wkSet P W (Int32.ofNat (wkC W))) := by unfold wkTake; rw [if_neg (by omega), if_neg (by omega), if_pos hkd]
    have tk2 : wkBorn (wkSet P W (Int32.ofNat (wkC W))) = (upf (wkV W) it (nI (wkC W)), wkS W + 1, wkN W + 1, wkP W, wkA W, wkT W, wkC W + 1, wkO W) := by
      unfold wkBorn wkSet
      rw [if_pos hS, i2 (by unfold stSets; rw [hc]; decide), zi_nat (by omega)]
      rfl
    rw [tk, tk2] at hA1
    have C1 := C.on f1
    have gF : gtF h1 w (wkS W + 1) (k + 1) (wkT W) (wkC W) (wkN W + 1) (wkV W) := by rw [eh]; exact gtF_seen (gtF_stH G.1) (k + 1)
    have e25 : zE h1 625 (B + wkS W) = nI it := by rw [eh]; exact i1
    have eb : zI h1 1266 616 = nI (wkC W) := gF.1.2.2.2.1
    have f2 : frx (gsS w) h1 (pI (pE h1 653 (8 * w + it) (nI (wkC W))) 1266 616 (nI (wkC W + 1))) := (frx_pE (by unfold gsS; omega)).trans (frx_pI (by unfold gsS; omega))
    refine ⟨_, ?_, f1.trans f2, gt_more hP hs (by omega) hkl hA1 G.2.2.1 (gtF_born (gtF_put gF i3 _) _) ?_ gN⟩
    · have H1 := C1.1
      have n8 : (nI (8 * w + it)).toNatClampNeg = 8 * w + it := zi_nat (by omega)
      have g8 : ¬ nI (8 * w + it) < 0 := zi_neg (by omega)
      have l8 : ¬ 512 ≤ 8 * w + it := by omega
      generalize stH h (wkS W) (wkN W) = hh at *
      have H := H0
      simp only [f_X11_asks, o10, o00, bh, isO, inR, ck_true, bind_some9, Nat.reduceLeDiff, Nat.reduceEqDiff, and_self, and_true, true_and, false_and, and_false, not_false_eq_true, not_true_eq_false, or_self, or_false, false_or, if_true, if_false, reduceIte, RF_o H, RF_1214 H, RO_624 H, RL_624 H, RF_1215 H, RO_625 H, RL_625 H, RF_1220 H, RO_630 H, RL_630 H, RF_1245 H, RO_653 H, RL_653 H, zR_pE, zT_pE, zL_pE, zn_pE, zE_pE, zI_pE, zR_pI, zT_pI, zL_pI, zn_pI, zE_pI, zI_pI, RF_o H1, RF_1215 H1, RO_625 H1, RL_625 H1, RF_1245 H1, RO_653 H1, RL_653 H1, nk, gk, lk, e6, ko_8_6, ko_8_7, ko_8_8, e30, e1, o10, e25, zi_8, n8, g8, l8, eb, zi_one]
    · show zE (pI (pE h1 653 (8 * w + it) (nI (wkC W))) 1266 616 (nI (wkC W + 1))) 651 w = nI 6
      simp only [zE_pI, zE_pE, Nat.reduceEqDiff, false_and, if_false]
      rw [eh]; exact G.2.1
theorem s_10 (C : gtC h N w t B E es P now) (G : gtH h w es P k W) (hS : wkS W < P.length) (hN : wkN W < 200) (hop : zE h 624 (B + wkS W) = nI 10) (hc : (stpAt P (wkS W)).1 = 84) (hx : ∀ V, vlOf V (zE h 626 (B + wkS W)) (zE h 627 (B + wkS W)) = valOf V (stpAt P (wkS W)).2.2.2.1) :
    ∃ h1, f_X11_goesStep 616 (nI w) h = some h1 ∧ frx (gsS w) h h1 ∧ gtN h1 w es P now k W := by
  obtain ⟨it, i1, i2, i3, ctx⟩ := gt_ctx C G hS hN
  obtain ⟨H, ev, ⟨hN6, hw64, -, hB⟩, -, -, hnow, hP, hs⟩ := id C
  have gN := G.2.2.2.2.1.2.1
  have hT : wkT W ≤ 60 := wkT60 C G
  rw [w_go_10 H ctx hop, hx]
  obtain ⟨nk, gk, lk⟩ := ask_pl (W := W) C hS
  generalize hxv : valOf (wkV W) (stpAt P (wkS W)).2.2.2.1 = x at *
  have hw : wkWish P (rpO es) now W = some (4, now + (if x < 0 then 0 else x), 0) := by rw [wish_go hS hN, if_neg (by rw [hc]; decide), if_pos hc, hxv]
  have e6 : zE (stH h (wkS W) (wkN W)) 624 (B + wkS W) = nI 10 := hop
  have en : zI (stH h (wkS W) (wkN W)) 1201 616 = now := hnow
  have H0 : RF (stH h (wkS W) (wkN W)) := RF_pI (RF_pI H _ _ _) _ _ _
  obtain ⟨r, h1, e1, f1, d1⟩ := own_st C G hw (by decide)
  have key : ∀ y v, f_X11_asks 616 (nI w) (nI (B + wkS W)) x y (stH h (wkS W) (wkN W)) = v ↔ f_X11_asks_92 616 (nI w) 4 now (if x < 0 then 0 else x) 616 (nI w) (stH h (wkS W) (wkN W)) = v := fun y v => by
    generalize stH h (wkS W) (wkN W) = hh at *
    have H := H0
    by_cases c : x < 0
    · have c1 : ¬ (0 : Int32) ≤ x := Int32.not_le.mpr c
      simp only [f_X11_asks, o10, o00, bh, isO, inR, ck_true, bind_some9, Nat.reduceLeDiff, Nat.reduceEqDiff, and_self, and_true, true_and, false_and, and_false, not_false_eq_true, not_true_eq_false, or_self, or_false, false_or, if_true, if_false, reduceIte, RF_o H, RF_1214 H, RO_624 H, RL_624 H, RF_1215 H, RO_625 H, RL_625 H, RF_1220 H, RO_630 H, RL_630 H, RF_1245 H, RO_653 H, RL_653 H, zR_pE, zT_pE, zL_pE, zn_pE, zE_pE, zI_pE, zR_pI, zT_pI, zL_pI, zn_pI, zE_pI, zI_pI, nk, gk, lk, e6, ko_10_6, ko_10_7, ko_10_8, ko_10_9, ko_10_10, c, c1, en]
    · have c1 : (0 : Int32) ≤ x := Int32.not_lt.mp c
      simp only [f_X11_asks, o10, o00, bh, isO, inR, ck_true, bind_some9, Nat.reduceLeDiff, Nat.reduceEqDiff, and_self, and_true, true_and, false_and, and_false, not_false_eq_true, not_true_eq_false, or_self, or_false, false_or, if_true, if_false, reduceIte, RF_o H, RF_1214 H, RO_624 H, RL_624 H, RF_1215 H, RO_625 H, RL_625 H, RF_1220 H, RO_630 H, RL_630 H, RF_1245 H, RO_653 H, RL_653 H, zR_pE, zT_pE, zL_pE, zn_pE, zE_pE, zI_pE, zR_pI, zT_pI, zL_pI, zn_pI, zE_pI, zI_pI, nk, gk, lk, e6, ko_10_6, ko_10_7, ko_10_8, ko_10_9, ko_10_10, c, c1, en]
  rcases d1 with ⟨r0, z⟩ | ⟨r1, eh, hkl, hkd, -, hA1⟩
  · refine ⟨h1, ?_, f1, Or.inl z⟩
    rw [r0] at e1
    have e1 : f_X11_own 616 (nI w) 4 (now + (if x < 0 then 0 else x)) 0 (stH h (wkS W) (wkN W)) = some (0, h1) := e1
    rw [key]
    generalize stH h (wkS W) (wkN W) = hh at *
    have H := H0
    simp only [f_X11_asks_92, o10, o00, bh, isO, inR, ck_true, bind_some9, Nat.reduceLeDiff, Nat.reduceEqDiff, and_self, and_true, true_and, false_and, and_false, not_false_eq_true, not_true_eq_false, or_self, or_false, false_or, if_true, if_false, reduceIte, RF_o H, RF_1227 H, RO_635 H, RL_635 H, RF_1251 H, RO_659 H, RL_659 H, zR_pE, zT_pE, zL_pE, zn_pE, zE_pE, zI_pE, zR_pI, zT_pI, zL_pI, zn_pI, zE_pI, zI_pI, e1, o00]
  · rw [r1] at e1
    have e1 : f_X11_own 616 (nI w) 4 (now + (if x < 0 then 0 else x)) 0 (stH h (wkS W) (wkN W)) = some (1, h1) := e1
    have tk : wkTake P W (evAt es k) = wkRest W 1 (evAt es k).2.1 := by unfold wkTake; rw [if_neg (by omega), if_pos hkd]
    rw [tk] at hA1
    have hR1 : hR P es (k + 1) = wkRest W 1 (evAt es k).2.1 := by rw [hR_wait (by rw [hA1]; show 1 ≠ 5; decide), hA1]
    have C1 := C.on f1
    have hes := hs.2.1
    obtain ⟨i, rn, rt, hi, hrn, hK, hiE, hrec⟩ := C1.2.1.at hkl
    have eE := w_event C1.1 hw64 (by omega) hiE
    have rA : zE h1 635 i = (evAt es k).2.1 := hrec.2.2.1
    have ni : (nI i).toNatClampNeg = i := zi_nat (by omega)
    have gi : ¬ nI i < 0 := zi_neg (by omega)
    have li : ¬ 60000 ≤ i := by omega
    have nx : (nI w).toNatClampNeg = w := zi_nat (by omega)
    have gx : ¬ nI w < 0 := zi_neg (by omega)
    have lx : ¬ 64 ≤ w := by omega
    have gF : gtF h1 w (wkS W + 1) (k + 1) (wkT W) (wkC W) (wkN W + 1) (wkV W) := by rw [eh]; exact gtF_seen (gtF_stH G.1) (k + 1)
    have f3 : frx (gsS w) h1 (pE h1 659 w (evAt es k).2.1) := frx_pE (by unfold gsS; omega)
    have C3 := C1.on f3
    have gF3 : gtF (pE h1 659 w (evAt es k).2.1) w (wkS W + 1) (k + 1) (wkT W) (wkC W) (wkN W + 1) (wkV W) := gtF_frx gF (fun f => rfl) (fun v hv => by simp only [zE_pE, Nat.reduceEqDiff, false_and, if_false])
    obtain ⟨h2, e2, f2, d2⟩ := w_waits (W := wkRest W 1 (evAt es k).2.1) (how := 1) (child := 0) (v := 0) C3.1 hw64 hN6 hs (by omega) (by omega) (Or.inr rfl) hS rfl (fun q => by omega) hT C3.2.1 gF3 (by omega) hkl hR1
    have e2 : f_X11_waits 616 (nI w) 1 0 0 (pE h1 659 w (evAt es k).2.1) = some h2 := e2
    refine ⟨h2, ?_, (f1.trans f3).trans (f2.mono (wtS_gs w)), wt_gtN hP hs d2 rfl (by omega) ?_ (fun _ => ?_) (by omega) gN⟩
    · rw [key]
      have e64 : zI h1 1264 616 - 1 = nI k := by rw [gF.1.2.1]; exact zi_sub (b := 1) (by omega)
      have H1 := C1.1
      generalize stH h (wkS W) (wkN W) = hh at *
      have H := H0
      simp only [f_X11_asks_92, o10, o00, bh, isO, inR, ck_true, bind_some9, Nat.reduceLeDiff, Nat.reduceEqDiff, and_self, and_true, true_and, false_and, and_false, not_false_eq_true, not_true_eq_false, or_self, or_false, false_or, if_true, if_false, reduceIte, RF_o H, RF_1227 H, RO_635 H, RL_635 H, RF_1251 H, RO_659 H, RL_659 H, zR_pE, zT_pE, zL_pE, zn_pE, zE_pE, zI_pE, zR_pI, zT_pI, zL_pI, zn_pI, zE_pI, zI_pI, RF_o H1, RF_1227 H1, RO_635 H1, RL_635 H1, RF_1251 H1, RO_659 H1, RL_659 H1, e1, o10, e64, eE, ni, gi, li, nx, gx, lx, rA, e2]
    · simp only [zE_pE, Nat.reduceEqDiff, false_and, if_false]
      rw [eh]; exact G.2.1
    · rw [f2.2.2.2 659 w (by unfold wtS; omega)]
      simp only [zE_pE, and_self, if_true]
      rfl
theorem s_14 (C : gtC h N w t B E es P now) (G : gtH h w es P k W) (hS : wkS W < P.length) (hN : wkN W < 200) (hop : zE h 624 (B + wkS W) = nI 14) (hc : (stpAt P (wkS W)).1 = 69) (hx : ∀ V, vlOf V (zE h 626 (B + wkS W)) (zE h 627 (B + wkS W)) = valOf V (stpAt P (wkS W)).2.2.2.1) :
    ∃ h1, f_X11_goesStep 616 (nI w) h = some h1 ∧ frx (gsS w) h h1 ∧ gtN h1 w es P now k W := by
  obtain ⟨it, i1, i2, i3, ctx⟩ := gt_ctx C G hS hN
  have H := C.1
  rw [w_go_14 H ctx hop, hx]
  obtain ⟨nk, gk, lk⟩ := ask_pl (W := W) C hS
  have hw : wkWish P (rpO es) now W = some (10, valOf (wkV W) (stpAt P (wkS W)).2.2.2.1, 0) := by rw [wish_go hS hN, if_neg (by rw [hc]; decide), if_neg (by rw [hc]; decide), if_neg (by rw [hc]; decide), if_neg (by rw [hc]; decide), if_pos hc]
  have e6 : zE (stH h (wkS W) (wkN W)) 624 (B + wkS W) = nI 14 := hop
  have H0 : RF (stH h (wkS W) (wkN W)) := RF_pI (RF_pI H _ _ _) _ _ _
  obtain ⟨r, h1, e1, f1, d1⟩ := own_st C G hw (by decide)
  have e1 : f_X11_own 616 (nI w) 10 (valOf (wkV W) (stpAt P (wkS W)).2.2.2.1) 0 (stH h (wkS W) (wkN W)) = some (r, h1) := e1
  refine ⟨h1, ?_, f1, Or.inl ?_⟩
  · generalize stH h (wkS W) (wkN W) = hh at *
    have H := H0
    simp only [f_X11_asks, o10, o00, bh, isO, inR, ck_true, bind_some9, Nat.reduceLeDiff, Nat.reduceEqDiff, and_self, and_true, true_and, false_and, and_false, not_false_eq_true, not_true_eq_false, or_self, or_false, false_or, if_true, if_false, reduceIte, RF_o H, RF_1214 H, RO_624 H, RL_624 H, RF_1215 H, RO_625 H, RL_625 H, RF_1220 H, RO_630 H, RL_630 H, RF_1245 H, RO_653 H, RL_653 H, zR_pE, zT_pE, zL_pE, zn_pE, zE_pE, zI_pE, zR_pI, zT_pI, zL_pI, zn_pI, zE_pI, zI_pI, nk, gk, lk, e6, ko_14_6, ko_14_7, ko_14_8, ko_14_9, ko_14_10, ko_14_11, e1]
  · rcases d1 with d1 | ⟨-, -, -, -, d, -⟩
    · exact d1.2
    · omega
end Asking
theorem org_nat {o : Int32} (co : o < 0) : ∃ v : Nat, v < 2147483648 ∧ -1 - o = nI v := by
  refine zi_of ?_
  rw [Int32.lt_iff_toInt_lt] at co ⊢
  rw [Int32.toInt_sub]
  have h0 : (0 : Int32).toInt = 0 := by decide
  have h1 : (-1 : Int32).toInt = -1 := by decide
  rw [h0] at co ⊢
  rw [h1]
  have h2 := Int32.le_toInt o
  generalize o.toInt = z at *
  have e : Int.bmod (-1 - z) (2 ^ 32) = -1 - z := Int.bmod_eq_of_le (by omega) (by omega)
  rw [e]
  omega
theorem org_div {o : Int32} (co : o < 0) : ¬ (-1 - o) / 64 = -1 := by
  obtain ⟨v, v1, v2⟩ := org_nat co
  rw [v2, show (64 : Int32) = nI 64 from rfl, zi_div v1 (by omega) (by omega)]
  exact zi_ne1 (by omega)
section Asking2
variable {h : Hp} {N w t B k : Nat} {E : List Nat} {es : List Evt} {P : Prg} {now : Int32} {W : Wkr}
theorem plc_in (c : Nat) : ∀ {es : List Evt} {n d : Nat}, plcOf c es n = some d → d < es.length ∧ (evAt es d).1 = c
  | [], n, d, h => by cases h
  | e :: r, n, d, h => by
    have up : ∀ {x : Nat}, (plcOf c r x).map (· + 1) = some d → d < (e :: r).length ∧ (evAt (e :: r) d).1 = c := fun {x} hx => by
      cases hz : plcOf c r x with
      | none => rw [hz] at hx; cases hx
      | some y =>
        rw [hz] at hx
        have hx : y + 1 = d := Option.some.inj hx
        obtain ⟨a, b⟩ := plc_in c hz
        rw [← hx]
        exact ⟨by rw [List.length_cons]; omega, b⟩
    unfold plcOf at h
    by_cases ce : e.1 = c
    · rw [if_pos ce] at h
      cases n with
      | zero =>
        have h : (0 : Nat) = d := Option.some.inj h
        rw [← h]
        exact ⟨by rw [List.length_cons]; omega, ce⟩
      | succ n => exact up h
    · rw [if_neg ce] at h
      exact up h
theorem s_7 (C : gtC h N w t B E es P now) (G : gtH h w es P k W) (hS : wkS W < P.length) (hN : wkN W < 200) (hop : zE h 624 (B + wkS W) = nI 7) (hc : (stpAt P (wkS W)).1 = 87) :
    ∃ h1, f_X11_goesStep 616 (nI w) h = some h1 ∧ frx (gsS w) h h1 ∧ gtN h1 w es P now k W := by
  obtain ⟨it, i1, i2, i3, ctx⟩ := gt_ctx C G hS hN
  obtain ⟨H, ev, ⟨hN6, hw64, -, hB⟩, -, -, -, hP, hs⟩ := id C
  have hT : wkT W ≤ 60 := wkT60 C G
  have hg := i2 (by unfold stSets; rw [hc]; decide)
  rw [w_go_7 H ctx hop]
  obtain ⟨nk, gk, lk⟩ := ask_pl (W := W) C hS
  have e6 : zE (stH h (wkS W) (wkN W)) 624 (B + wkS W) = nI 7 := hop
  have e25 : zE (stH h (wkS W) (wkN W)) 625 (B + wkS W) = nI it := i1
  have H0 : RF (stH h (wkS W) (wkN W)) := RF_pI (RF_pI H _ _ _) _ _ _
  have f0 := stH_fr h w (wkS W) (wkN W)
  have hk := G.2.2.2.1.2
  have hes := hs.2.1
  have e := w_takes_go (v := it) (W := W) hw64 hN6 i3 hk H0 (C.on f0).2.1 (gtF_stH G.1) hT k 0 0 fz (by omega) (fz_big (by omega)) (by omega) (by omega)
  rw [List.drop_zero, Nat.sub_zero] at e
  have key : ∀ x y, f_X11_asks 616 (nI w) (nI (B + wkS W)) x y (stH h (wkS W) (wkN W)) = f_X11_takesSignal_5 fz 616 (nI w) (nI it) 0 0 (stH h (wkS W) (wkN W)) := fun x y => by
    generalize stH h (wkS W) (wkN W) = hh at *
    have H := H0
    simp only [f_X11_asks, f_X11_takesSignal, o10, o00, bh, isO, inR, ck_true, bind_some9, Nat.reduceLeDiff, Nat.reduceEqDiff, and_self, and_true, true_and, false_and, and_false, not_false_eq_true, not_true_eq_false, or_self, or_false, false_or, if_true, if_false, reduceIte, RF_o H, RF_1214 H, RO_624 H, RL_624 H, RF_1215 H, RO_625 H, RL_625 H, RF_1220 H, RO_630 H, RL_630 H, RF_1245 H, RO_653 H, RL_653 H, zR_pE, zT_pE, zL_pE, zn_pE, zE_pE, zI_pE, zR_pI, zT_pI, zL_pI, zn_pI, zE_pI, zI_pI, nk, gk, lk, e6, ko_7_6, ko_7_7, e25]
    exact bind_id _
  have e : f_X11_takesSignal_5 fz 616 (nI w) (nI it) 0 0 (stH h (wkS W) (wkN W)) = _ := e
  rw [key, e]
  have hw : wkWish P (rpO es) 0 W = none := wish_none hS hN (by rw [hc]; decide) (by rw [hc]; decide) (by rw [hc]; decide) (Or.inl (by rw [hc]; decide)) (by rw [hc]; decide)
  have hW : wkWalk P (es.take k) W = (match plcOf 8 (es.take k) (wkT W) with
    | none => wkRest W 2 0
    | some d => wkSet P (wkTook W) (evAt (es.take k) d).2.1) := by
    unfold wkWalk
    simp only []
    rw [if_neg (by rw [hc]; decide), if_neg (by rw [hc]; decide), if_neg (by rw [hc]; decide), if_pos hc]
    rfl
  cases hp : plcOf 8 (es.take k) (wkT W) with
  | none =>
    rw [hp] at hW
    obtain ⟨h1, e1, f1, d1⟩ := s_rest (a := 0) C G hS hN i3 hg (Or.inl rfl) hw hW
    have e1 : f_X11_waits 616 (nI w) 2 0 (nI it) (stH h (wkS W) (wkN W)) = some h1 := e1
    refine ⟨h1, ?_, f1, d1⟩
    show (f_X11_waits 616 (nI w) 2 0 (nI it) (stH h (wkS W) (wkN W))).bind _ = _
    rw [e1]; rfl
  | some d =>
    rw [hp] at hW
    have hd := (plc_in 8 hp).1
    rw [List.length_take] at hd
    have ea : evAt (es.take k) d = evAt es d := evAt_take (by omega)
    have hW : wkWalk P (es.take k) W = (upf (wkV W) it (evAt es d).2.1, wkS W + 1, wkN W + 1, wkP W, wkA W, wkT W + 1, wkC W, wkO W) := by
      rw [hW]
      show wkSet P (wkTook W) (evAt (es.take k) d).2.1 = _
      rw [ea]
      show ((if wkS W < P.length then upf (wkV W) (stpAt P (wkS W)).2.1.toNatClampNeg (evAt es d).2.1 else wkV W), _) = _
      rw [if_pos hS, hg, zi_nat (by omega)]
      rfl
    refine ⟨_, rfl, f0.trans ((frx_pE (by unfold gsS; omega)).trans (frx_pI (by unfold gsS; omega))), gt_walk hP G hN hw ?_ ?_ ?_ ?_⟩
    · rw [hW]; exact G.2.2.1
    · rw [hW]
    · rw [hW]
      rw [Nat.zero_add]
      exact gtF_took (gtF_put (gtF_stH G.1) i3 _) _
    · simp only [zE_pI, zE_pE, Nat.reduceEqDiff, false_and, if_false]; exact G.2.1
theorem w_in {x : Int32} {c : Nat} {h : Hp} : f_X11_in x (nI c) h = some (if 0 ≤ x ∧ x < nI c then 1 else 0, h) := by
  unfold f_X11_in
  by_cases c1 : x < 0
  · rw [if_pos c1, if_neg (fun q => absurd c1 (Int32.not_lt.mpr q.1))]
  · rw [if_neg c1]
    by_cases c2 : nI c ≤ x
    · rw [if_pos c2, if_neg (fun q => absurd c2 (Int32.not_le.mpr q.2))]
    · rw [if_neg c2, if_pos ⟨Int32.not_lt.mp c1, Int32.not_le.mp c2⟩]
theorem s_9 (C : gtC h N w t B E es P now) (G : gtH h w es P k W) (hS : wkS W < P.length) (hN : wkN W < 200) (hop : zE h 624 (B + wkS W) = nI 9) (hc : (stpAt P (wkS W)).1 = 74) (hx : ∀ V, vlOf V (zE h 626 (B + wkS W)) (zE h 627 (B + wkS W)) = valOf V (stpAt P (wkS W)).2.2.2.1) :
    ∃ h1, f_X11_goesStep 616 (nI w) h = some h1 ∧ frx (gsS w) h h1 ∧ gtN h1 w es P now k W := by
  obtain ⟨it, i1, i2, i3, ctx⟩ := gt_ctx C G hS hN
  obtain ⟨H, ev, ⟨hN6, hw64, -, hB⟩, -, -, -, hP, hs⟩ := id C
  have hg := i2 (by unfold stSets; rw [hc]; decide)
  rw [w_go_9 H ctx hop, hx]
  obtain ⟨nk, gk, lk⟩ := ask_pl (W := W) C hS
  have e6 : zE (stH h (wkS W) (wkN W)) 624 (B + wkS W) = nI 9 := hop
  have e25 : zE (stH h (wkS W) (wkN W)) 625 (B + wkS W) = nI it := i1
  have H0 : RF (stH h (wkS W) (wkN W)) := RF_pI (RF_pI H _ _ _) _ _ _
  have f0 := stH_fr h w (wkS W) (wkN W)
  have hk := G.2.2.2.1.2
  have hes := hs.2.1
  have gF := gtF_stH G.1
  have eE := w_endOf (c := valOf (wkV W) (stpAt P (wkS W)).2.2.2.1) H0 hw64 hN6 (C.on f0).2.1 hk
  have hw : wkWish P (rpO es) 0 W = none := wish_none hS hN (by rw [hc]; decide) (by rw [hc]; decide) (by rw [hc]; decide) (Or.inl (by rw [hc]; decide)) (by rw [hc]; decide)
  have n8 : (nI (8 * w + it)).toNatClampNeg = 8 * w + it := zi_nat (by omega)
  have g8 : ¬ nI (8 * w + it) < 0 := zi_neg (by omega)
  have l8 : ¬ 512 ≤ 8 * w + it := by omega
  have eS : ∀ v, wkSet P W v = (upf (wkV W) it v, wkS W + 1, wkN W + 1, wkP W, wkA W, wkT W, wkC W, wkO W) := fun v => by
    unfold wkSet
    rw [if_pos hS, hg, zi_nat (by omega)]
  have hW : wkWalk P (es.take k) W = (if 0 ≤ valOf (wkV W) (stpAt P (wkS W)).2.2.2.1 ∧ valOf (wkV W) (stpAt P (wkS W)).2.2.2.1 < Int32.ofNat (wkC W) then (match endOf (valOf (wkV W) (stpAt P (wkS W)).2.2.2.1) (es.take k) with
      | none => wkRest W 3 (valOf (wkV W) (stpAt P (wkS W)).2.2.2.1)
      | some d => wkSet P W (evAt (es.take k) d).2.2.1) else wkSet P W (-1)) := by
    unfold wkWalk
    simp only []
    rw [if_neg (by rw [hc]; decide), if_neg (by rw [hc]; decide), if_neg (by rw [hc]; decide), if_neg (by rw [hc]; decide), if_pos hc]
    rfl
  generalize valOf (wkV W) (stpAt P (wkS W)).2.2.2.1 = x at *
  have sets : ∀ v, wkWalk P (es.take k) W = wkSet P W v → ∀ y, f_X11_asks 616 (nI w) (nI (B + wkS W)) x y (stH h (wkS W) (wkN W)) = some (pE (stH h (wkS W) (wkN W)) 653 (8 * w + it) v) → ∃ h1, f_X11_asks 616 (nI w) (nI (B + wkS W)) x y (stH h (wkS W) (wkN W)) = some h1 ∧ frx (gsS w) h h1 ∧ gtN h1 w es P now k W := fun v hWv y e => by
    rw [eS] at hWv
    refine ⟨_, e, f0.trans (frx_pE (by unfold gsS; omega)), gt_walk hP G hN hw ?_ ?_ ?_ ?_⟩
    · rw [hWv]; exact G.2.2.1
    · rw [hWv]
    · rw [hWv]; exact gtF_put gF i3 v
    · simp only [zE_pE, Nat.reduceEqDiff, false_and, if_false]; exact G.2.1
  have e64 : zI (stH h (wkS W) (wkN W)) 1264 616 = nI k := gF.1.2.1
  have e66 : zI (stH h (wkS W) (wkN W)) 1266 616 = nI (wkC W) := gF.1.2.2.2.1
  by_cases cin : 0 ≤ x ∧ x < nI (wkC W)
  · rw [if_pos (show 0 ≤ x ∧ x < Int32.ofNat (wkC W) from cin)] at hW
    have ein : f_X11_in x (nI (wkC W)) (stH h (wkS W) (wkN W)) = some (1, stH h (wkS W) (wkN W)) := by rw [w_in, if_pos cin]
    cases hp : endOf x (es.take k) with
    | none =>
      rw [hp] at hW eE
      obtain ⟨h1, e1, f1, d1⟩ := s_rest (a := x) C G hS hN i3 hg (Or.inr rfl) hw hW
      have e1 : f_X11_waits 616 (nI w) 3 x (nI it) (stH h (wkS W) (wkN W)) = some h1 := e1
      refine ⟨h1, ?_, f1, d1⟩
      have eE : f_X11_endOf 616 (nI w) x (nI k) (stH h (wkS W) (wkN W)) = some (-1, stH h (wkS W) (wkN W)) := eE
      generalize stH h (wkS W) (wkN W) = hh at *
      have H := H0
      simp only [f_X11_asks, f_X11_joins, o10, o00, bh, isO, inR, ck_true, bind_some9, Nat.reduceLeDiff, Nat.reduceEqDiff, and_self, and_true, true_and, false_and, and_false, not_false_eq_true, not_true_eq_false, or_self, or_false, false_or, if_true, if_false, reduceIte, RF_o H, RF_1214 H, RO_624 H, RL_624 H, RF_1215 H, RO_625 H, RL_625 H, RF_1220 H, RO_630 H, RL_630 H, RF_1228 H, RO_636 H, RL_636 H, RF_1245 H, RO_653 H, RL_653 H, zR_pE, zT_pE, zL_pE, zn_pE, zE_pE, zI_pE, zR_pI, zT_pI, zL_pI, zn_pI, zE_pI, zI_pI, nk, gk, lk, e6, ko_9_6, ko_9_7, ko_9_8, ko_9_9, e25, e64, e66, eE, ein, e1]
    | some d =>
      rw [hp] at hW eE
      obtain ⟨hd, -, -⟩ := endOf_lt hp
      rw [List.length_take] at hd
      have ea : evAt (es.take k) d = evAt es d := evAt_take (by omega)
      have hW : wkWalk P (es.take k) W = wkSet P W (evAt es d).2.2.1 := by rw [hW]; show wkSet P W (evAt (es.take k) d).2.2.1 = _; rw [ea]
      refine sets _ hW _ ?_
      obtain ⟨i, rn, rt, hi, hrn, hK, hiE, hrec⟩ := (C.on f0).2.1.at (show d < es.length by omega)
      have eE : f_X11_endOf 616 (nI w) x (nI k) (stH h (wkS W) (wkN W)) = some (nI i, stH h (wkS W) (wkN W)) := by rw [← hiE]; exact eE
      have rB : zE (stH h (wkS W) (wkN W)) 636 i = (evAt es d).2.2.1 := hrec.2.2.2.1
      have ni : (nI i).toNatClampNeg = i := zi_nat (by omega)
      have gi : ¬ nI i < 0 := zi_neg (by omega)
      have li : ¬ 60000 ≤ i := by omega
      have n1 : ¬ nI i = -1 := zi_ne1 (by omega)
      generalize stH h (wkS W) (wkN W) = hh at *
      have H := H0
      simp only [f_X11_asks, f_X11_joins, o10, o00, bh, isO, inR, ck_true, bind_some9, Nat.reduceLeDiff, Nat.reduceEqDiff, and_self, and_true, true_and, false_and, and_false, not_false_eq_true, not_true_eq_false, or_self, or_false, false_or, if_true, if_false, reduceIte, RF_o H, RF_1214 H, RO_624 H, RL_624 H, RF_1215 H, RO_625 H, RL_625 H, RF_1220 H, RO_630 H, RL_630 H, RF_1228 H, RO_636 H, RL_636 H, RF_1245 H, RO_653 H, RL_653 H, zR_pE, zT_pE, zL_pE, zn_pE, zE_pE, zI_pE, zR_pI, zT_pI, zL_pI, zn_pI, zE_pI, zI_pI, nk, gk, lk, e6, ko_9_6, ko_9_7, ko_9_8, ko_9_9, e25, e64, e66, eE, ein, n1, ni, gi, li, rB, zi_8, n8, g8, l8]
  · rw [if_neg (show ¬ (0 ≤ x ∧ x < Int32.ofNat (wkC W)) from cin)] at hW
    have ein : f_X11_in x (nI (wkC W)) (stH h (wkS W) (wkN W)) = some (0, stH h (wkS W) (wkN W)) := by rw [w_in, if_neg cin]
    refine sets _ hW _ ?_
    generalize (match endOf x (es.take k) with | none => -1 | some d => zE (stH h (wkS W) (wkN W)) 648 (60 * w + d)) = vv at eE
    generalize stH h (wkS W) (wkN W) = hh at *
    have H := H0
    simp only [f_X11_asks, f_X11_joins, o10, o00, bh, isO, inR, ck_true, bind_some9, Nat.reduceLeDiff, Nat.reduceEqDiff, and_self, and_true, true_and, false_and, and_false, not_false_eq_true, not_true_eq_false, or_self, or_false, false_or, if_true, if_false, reduceIte, RF_o H, RF_1214 H, RO_624 H, RL_624 H, RF_1215 H, RO_625 H, RL_625 H, RF_1220 H, RO_630 H, RL_630 H, RF_1228 H, RO_636 H, RL_636 H, RF_1245 H, RO_653 H, RL_653 H, zR_pE, zT_pE, zL_pE, zn_pE, zE_pE, zI_pE, zR_pI, zT_pI, zL_pI, zn_pI, zE_pI, zI_pI, nk, gk, lk, e6, ko_9_6, ko_9_7, ko_9_8, ko_9_9, e25, e64, e66, eE, ein, zi_8, n8, g8, l8]
theorem up2_same {α : Type} (f : Nat → Nat → α) (a b : Nat) (v : α) : up2 (up2 f a b v) a b v = up2 f a b v := by
  funext x y
  unfold up2
  by_cases c : x = a ∧ y = b
  · rw [if_pos c, if_pos c]
  · rw [if_neg c]
theorem stH_again (h : Hp) (p g : Nat) : pI (stH h p g) 1263 616 (nI (p + 1)) = stH h p g := by
  unfold stH
  show ((pI h 1267 616 (nI (g + 1))).1, _, _, up2 (up2 (zI (pI h 1267 616 (nI (g + 1)))) 1263 616 (nI (p + 1))) 1263 616 (nI (p + 1)), _) = _
  rw [up2_same]
  rfl
end Asking2
theorem w_asks_a {hh : Hp} (H : RF hh) {w K : Nat} {y : Int32} (nk : (nI K).toNatClampNeg = K) (gk : ¬ nI K < 0) (lk : ¬ 11100 ≤ K) (e6 : zE hh 624 K = nI 11) (q : Int32) (np : ¬ q = -1) (ep : f_X11_parent 616 (nI w) hh = some (q, hh)) :
    f_X11_asks 616 (nI w) (nI K) (-1) y hh = f_X11_asks_240 616 (nI w) (-1) y hh := by
  unfold f_X11_asks
  simp only [RF_1214 H, RO_624 H, RL_624 H, RF_o H, isO, inR, ck_true, nk, gk, lk, e6, ko_11_6, ko_11_7, ko_11_8, ko_11_9, ko_11_10, ko_11_11, and_self, or_self, not_false_eq_true, if_true, if_false, ep, bind_some9, if_neg np, Nat.reduceLeDiff]
theorem w_asks_b {hh : Hp} (H : RF hh) {w K : Nat} {y : Int32} (nk : (nI K).toNatClampNeg = K) (gk : ¬ nI K < 0) (lk : ¬ 11100 ≤ K) (e6 : zE hh 624 K = nI 11) (ep : f_X11_parent 616 (nI w) hh = some (-1, hh)) :
    f_X11_asks 616 (nI w) (nI K) (-1) y hh = some hh := by
  unfold f_X11_asks
  simp only [RF_1214 H, RO_624 H, RL_624 H, RF_o H, isO, inR, ck_true, nk, gk, lk, e6, ko_11_6, ko_11_7, ko_11_8, ko_11_9, ko_11_10, ko_11_11, and_self, or_self, not_false_eq_true, if_true, if_false, ep, bind_some9, Nat.reduceLeDiff]
theorem w_asks_c {hh : Hp} (H : RF hh) {w K c : Nat} {x y : Int32} (nk : (nI K).toNatClampNeg = K) (gk : ¬ nI K < 0) (lk : ¬ 11100 ≤ K) (e6 : zE hh 624 K = nI 11) (c1 : ¬ x = -1) (e66 : zI hh 1266 616 = nI c) (ein : f_X11_in x (nI c) hh = some (1, hh)) :
    f_X11_asks 616 (nI w) (nI K) x y hh = f_X11_asks_240 616 (nI w) x y hh := by
  unfold f_X11_asks
  simp only [RF_1214 H, RO_624 H, RL_624 H, RF_o H, isO, inR, ck_true, nk, gk, lk, e6, ko_11_6, ko_11_7, ko_11_8, ko_11_9, ko_11_10, ko_11_11, and_self, or_self, not_false_eq_true, if_true, if_false, c1, e66, ein, bind_some9, o10, Nat.reduceLeDiff]
theorem w_asks_d {hh : Hp} (H : RF hh) {w K c : Nat} {x y : Int32} (nk : (nI K).toNatClampNeg = K) (gk : ¬ nI K < 0) (lk : ¬ 11100 ≤ K) (e6 : zE hh 624 K = nI 11) (c1 : ¬ x = -1) (e66 : zI hh 1266 616 = nI c) (ein : f_X11_in x (nI c) hh = some (0, hh)) :
    f_X11_asks 616 (nI w) (nI K) x y hh = some hh := by
  unfold f_X11_asks
  simp only [RF_1214 H, RO_624 H, RL_624 H, RF_o H, isO, inR, ck_true, nk, gk, lk, e6, ko_11_6, ko_11_7, ko_11_8, ko_11_9, ko_11_10, ko_11_11, and_self, or_self, not_false_eq_true, if_true, if_false, c1, e66, ein, bind_some9, o00, Nat.reduceLeDiff]
theorem w_asks_240 {hh : Hp} (H : RF hh) {w : Nat} {x y r : Int32} {h1 : Hp} (e1 : f_X11_own 616 (nI w) 9 x y hh = some (r, h1)) : f_X11_asks_240 616 (nI w) x y hh = some h1 := by
  unfold f_X11_asks_240
  rw [ck_yes (RF_o H), e1]
  show (if r = 0 then some h1 else some h1) = some h1
  split <;> rfl
section Asking3
variable {h : Hp} {N w t B k : Nat} {E : List Nat} {es : List Evt} {P : Prg} {now : Int32} {W : Wkr}
theorem s_11 (C : gtC h N w t B E es P now) (G : gtH h w es P k W) (hS : wkS W < P.length) (hN : wkN W < 200) (hop : zE h 624 (B + wkS W) = nI 11) (hc : (stpAt P (wkS W)).1 = 83) (hx : ∀ V, vlOf V (zE h 626 (B + wkS W)) (zE h 627 (B + wkS W)) = valOf V (stpAt P (wkS W)).2.2.2.1) (hy : ∀ V, vlOf V (zE h 628 (B + wkS W)) (zE h 629 (B + wkS W)) = valOf V (stpAt P (wkS W)).2.2.2.2) :
    ∃ h1, f_X11_goesStep 616 (nI w) h = some h1 ∧ frx (gsS w) h h1 ∧ gtN h1 w es P now k W := by
  obtain ⟨it, i1, i2, i3, ctx⟩ := gt_ctx C G hS hN
  obtain ⟨H, ev, ⟨hN6, hw64, -, hB⟩, -, -, -, hP, hs⟩ := id C
  have gN := G.2.2.2.2.1.2.1
  have e0 := w_go_11 H ctx hop
  rw [hx, hy] at e0
  rw [e0]
  obtain ⟨nk, gk, lk⟩ := ask_pl (W := W) C hS
  have e6 : zE (stH h (wkS W) (wkN W)) 624 (B + wkS W) = nI 11 := hop
  have H0 : RF (stH h (wkS W) (wkN W)) := RF_pI (RF_pI H _ _ _) _ _ _
  have f0 := stH_fr h w (wkS W) (wkN W)
  have gF := gtF_stH G.1
  have e66 : zI (stH h (wkS W) (wkN W)) 1266 616 = nI (wkC W) := gF.1.2.2.2.1
  have ep := w_parent H0 hw64 (C.on f0).2.1 hs.1 hN6
  generalize hxv : valOf (wkV W) (stpAt P (wkS W)).2.2.2.1 = x at *
  generalize hyv : valOf (wkV W) (stpAt P (wkS W)).2.2.2.2 = y at *
  have yes : f_X11_asks 616 (nI w) (nI (B + wkS W)) x y (stH h (wkS W) (wkN W)) = f_X11_asks_240 616 (nI w) x y (stH h (wkS W) (wkN W)) → hasKin (rpO es) W x = true → ∃ h1, f_X11_asks 616 (nI w) (nI (B + wkS W)) x y (stH h (wkS W) (wkN W)) = some h1 ∧ frx (gsS w) h h1 ∧ gtN h1 w es P now k W := fun e hk => by
    have hw : wkWish P (rpO es) now W = some (9, x, y) := by rw [wish_go hS hN, if_neg (by rw [hc]; decide), if_neg (by rw [hc]; decide), if_neg (by rw [hc]; decide), if_pos hc, hxv, hyv, if_pos hk]
    obtain ⟨r, h1, e1, f1, d1⟩ := own_st C G hw (by decide)
    have e1 : f_X11_own 616 (nI w) 9 x y (stH h (wkS W) (wkN W)) = some (r, h1) := e1
    have e2 : f_X11_asks 616 (nI w) (nI (B + wkS W)) x y (stH h (wkS W) (wkN W)) = some h1 := by
      rw [e]
      exact w_asks_240 H0 e1
    refine ⟨h1, e2, f1, ?_⟩
    rcases d1 with ⟨-, z⟩ | ⟨-, eh, hkl, hkd, -, hA1⟩
    · exact Or.inl z
    · have tk : wkTake P W (evAt es k) = wkLeave W (wkS W + 1) := by unfold wkTake; rw [if_neg (by omega), if_neg (by omega), if_neg (by omega), if_pos hkd]
      rw [tk] at hA1
      refine gt_more hP hs (by omega) hkl hA1 G.2.2.1 ?_ ?_ gN
      · rw [eh]; exact gtF_seen gF (k + 1)
      · rw [eh]; exact G.2.1
  have no : f_X11_asks 616 (nI w) (nI (B + wkS W)) x y (stH h (wkS W) (wkN W)) = some (stH h (wkS W) (wkN W)) → hasKin (rpO es) W x = false → ∃ h1, f_X11_asks 616 (nI w) (nI (B + wkS W)) x y (stH h (wkS W) (wkN W)) = some h1 ∧ frx (gsS w) h h1 ∧ gtN h1 w es P now k W := fun e hk => by
    rw [e0.symm] at e ⊢
    refine s_jump (p1 := wkS W + 1) C G hS hN (Or.inr (Or.inr ⟨hc, by rw [hxv]; exact hk⟩)) ?_ e (stH_again h _ _).symm
    unfold wkWalk
    simp only []
    rw [if_neg (by rw [hc]; decide), if_neg (by rw [hc]; decide), if_pos hc]
  by_cases c1 : x = -1
  · by_cases co : rpO es < 0
    · refine yes ?_ (by unfold hasKin; rw [if_pos c1]; exact decide_eq_true co)
      rw [if_pos co] at ep
      rw [c1]
      exact w_asks_a H0 nk gk lk e6 _ (org_div co) ep
    · refine no ?_ (by unfold hasKin; rw [if_pos c1]; exact decide_eq_false co)
      rw [if_neg co] at ep
      rw [c1]
      exact w_asks_b H0 nk gk lk e6 ep
  · by_cases cin : 0 ≤ x ∧ x < nI (wkC W)
    · have ein : f_X11_in x (nI (wkC W)) (stH h (wkS W) (wkN W)) = some (1, stH h (wkS W) (wkN W)) := by rw [w_in, if_pos cin]
      refine yes ?_ (by unfold hasKin; rw [if_neg c1, decide_eq_true cin.1]; exact decide_eq_true cin.2)
      exact w_asks_c H0 nk gk lk e6 c1 e66 ein
    · have ein : f_X11_in x (nI (wkC W)) (stH h (wkS W) (wkN W)) = some (0, stH h (wkS W) (wkN W)) := by rw [w_in, if_neg cin]
      refine no ?_ (by
        unfold hasKin
        rw [if_neg c1]
        by_cases ca : 0 ≤ x
        · rw [decide_eq_false (show ¬ x < Int32.ofNat (wkC W) from fun q => cin ⟨ca, q⟩), Bool.and_false]
        · rw [decide_eq_false ca, Bool.false_and])
      exact w_asks_d H0 nk gk lk e6 c1 e66 ein
end Asking3
/-! THE WHOLE WALK -/
theorem rk_43 (x y : Int32) : reckon 43 x y = x + y := by
  unfold reckon
  rw [if_neg (show ¬ (43 : Int32) = 45 by decide), if_neg (show ¬ (43 : Int32) = 42 by decide), if_neg (show ¬ (43 : Int32) = 60 by decide), if_neg (show ¬ (43 : Int32) = 61 by decide)]
theorem rk_45 (x y : Int32) : reckon 45 x y = x - y := by
  unfold reckon
  rw [if_pos rfl]
theorem rk_42 (x y : Int32) : reckon 42 x y = x * y := by
  unfold reckon
  rw [if_neg (show ¬ (42 : Int32) = 45 by decide), if_pos rfl]
theorem rk_60 (x y : Int32) : reckon 60 x y = if x < y then 1 else 0 := by
  unfold reckon
  rw [if_neg (show ¬ (60 : Int32) = 45 by decide), if_neg (show ¬ (60 : Int32) = 42 by decide), if_pos (show (60 : Int32) = 60 from rfl)]
theorem rk_61 (x y : Int32) : reckon 61 x y = if x = y then 1 else 0 := by
  unfold reckon
  rw [if_neg (show ¬ (61 : Int32) = 45 by decide), if_neg (show ¬ (61 : Int32) = 42 by decide), if_neg (show ¬ (61 : Int32) = 60 by decide), if_pos (show (61 : Int32) = 61 from rfl)]
theorem st_sets {c : Int32} (hl : c = 43 ∨ c = 45 ∨ c = 42 ∨ c = 60 ∨ c = 61) : stSets c := by
  unfold stSets
  rcases hl with h | h | h | h | h
  · exact Or.inl h
  · exact Or.inr (Or.inl h)
  · exact Or.inr (Or.inr (Or.inl h))
  · exact Or.inr (Or.inr (Or.inr (Or.inl h)))
  · exact Or.inr (Or.inr (Or.inr (Or.inr (Or.inl h))))
section Walk9
variable {h : Hp} {N w t B k : Nat} {E : List Nat} {es : List Evt} {P : Prg} {now : Int32} {W : Wkr}
theorem w_go_end (H : RF h) (hw : w < 64) (ht : t < 4100) {L p : Nat} (q1 : zE h 650 w = nI t) (q2 : zE h 621 t = nI L) (q4 : zI h 1263 616 = nI L) {r : Int32} {h1 : Hp} (e1 : f_X11_own 616 (nI w) 10 0 0 h = some (r, h1)) : f_X11_goesStep 616 (nI w) h = some h1 := by
  have nx : (nI w).toNatClampNeg = w := zi_nat (by omega)
  have gx : ¬ nI w < 0 := zi_neg (by omega)
  have lx : ¬ 64 ≤ w := by omega
  have nt : (nI t).toNatClampNeg = t := zi_nat (by omega)
  have gt : ¬ nI t < 0 := zi_neg (by omega)
  have lt : ¬ 4100 ≤ t := by omega
  simp only [f_X11_goesStep, o10, o00, bh, isO, inR, ck_true, bind_some9, Nat.reduceLeDiff, Nat.reduceEqDiff, and_self, and_true, true_and, false_and, and_false, not_false_eq_true, not_true_eq_false, or_self, or_false, false_or, if_true, if_false, reduceIte, RF_o H, RF_1209 H, RO_620 H, RL_620 H, RF_1210 H, RO_621 H, RL_621 H, RF_1214 H, RO_624 H, RL_624 H, RF_1215 H, RO_625 H, RL_625 H, RF_1216 H, RO_626 H, RL_626 H, RF_1217 H, RO_627 H, RL_627 H, RF_1218 H, RO_628 H, RL_628 H, RF_1219 H, RO_629 H, RL_629 H, RF_1220 H, RO_630 H, RL_630 H, RF_1242 H, RO_650 H, RL_650 H, RF_1245 H, RO_653 H, RL_653 H, zR_pE, zT_pE, zL_pE, zn_pE, zE_pE, zI_pE, zR_pI, zT_pI, zL_pI, zn_pI, zE_pI, zI_pI, nx, gx, lx, q1, nt, gt, lt, q2, q4, e1]
theorem w_go_over (H : RF h) (hw : w < 64) (ht : t < 4100) {L p : Nat} (hp : p < L) (hL : L ≤ 60) (q1 : zE h 650 w = nI t) (q2 : zE h 621 t = nI L) (q4 : zI h 1263 616 = nI p) (q5 : zI h 1267 616 = nI 200) {r : Int32} {h1 : Hp} (e1 : f_X11_own 616 (nI w) 12 (-1) 0 h = some (r, h1)) : f_X11_goesStep 616 (nI w) h = some h1 := by
  have nx : (nI w).toNatClampNeg = w := zi_nat (by omega)
  have gx : ¬ nI w < 0 := zi_neg (by omega)
  have lx : ¬ 64 ≤ w := by omega
  have nt : (nI t).toNatClampNeg = t := zi_nat (by omega)
  have gt : ¬ nI t < 0 := zi_neg (by omega)
  have lt : ¬ 4100 ≤ t := by omega
  have c1 : ¬ nI p = nI L := fun e => absurd ((zi_eq (by omega) (by omega)).mp e) (by omega)
  have c2 : (nI 200 = (200 : Int32)) = True := eq_self _
  simp only [f_X11_goesStep, o10, o00, bh, isO, inR, ck_true, bind_some9, Nat.reduceLeDiff, Nat.reduceEqDiff, and_self, and_true, true_and, false_and, and_false, not_false_eq_true, not_true_eq_false, or_self, or_false, false_or, if_true, if_false, reduceIte, RF_o H, RF_1209 H, RO_620 H, RL_620 H, RF_1210 H, RO_621 H, RL_621 H, RF_1214 H, RO_624 H, RL_624 H, RF_1215 H, RO_625 H, RL_625 H, RF_1216 H, RO_626 H, RL_626 H, RF_1217 H, RO_627 H, RL_627 H, RF_1218 H, RO_628 H, RL_628 H, RF_1219 H, RO_629 H, RL_629 H, RF_1220 H, RO_630 H, RL_630 H, RF_1242 H, RO_650 H, RL_650 H, RF_1245 H, RO_653 H, RL_653 H, zR_pE, zT_pE, zL_pE, zn_pE, zE_pE, zI_pE, zR_pI, zT_pI, zL_pI, zn_pI, zE_pI, zI_pI, nx, gx, lx, q1, nt, gt, lt, q2, q4, q5, c1, c2, e1]
theorem w_step (C : gtC h N w t B E es P now) (G : gtH h w es P k W) : ∃ h1, f_X11_goesStep 616 (nI w) h = some h1 ∧ frx (gsS w) h h1 ∧ gtN h1 w es P now k W := by
  obtain ⟨H, ev, ⟨hN6, hw64, ht, hB⟩, ⟨c1, c2, c3⟩, hst, -, hP, hs⟩ := id C
  obtain ⟨⟨⟨q1, q2, q3, q4, q5⟩, q6⟩, g6, g5, gk, ⟨gS, gN, -⟩, -⟩ := id G
  by_cases hS : wkS W < P.length
  · by_cases hN : wkN W < 200
    · obtain ⟨it, i1, i2, i3, ctx⟩ := gt_ctx C G hS hN
      obtain ⟨-, -, -, op, o1, o2, o3, oo⟩ := hst (wkS W) hS
      have sets : ∀ {c : Int32} {v : Int32}, (stpAt P (wkS W)).1 = c → (c = 43 ∨ c = 45 ∨ c = 42 ∨ c = 60 ∨ c = 61) → v = reckon c (valOf (wkV W) (stpAt P (wkS W)).2.2.2.1) (valOf (wkV W) (stpAt P (wkS W)).2.2.2.2) → f_X11_goesStep 616 (nI w) h = some (pE (stH h (wkS W) (wkN W)) 653 (8 * w + it) v) → ∃ h1, f_X11_goesStep 616 (nI w) h = some h1 ∧ frx (gsS w) h h1 ∧ gtN h1 w es P now k W := fun hc hl hv e => s_set C G hS hN hc hl i3 (i2 (by rw [hc]; exact st_sets hl)) hv e
      rcases oo with ⟨ho, hc, hy⟩ | ⟨ho, hc⟩ | ⟨ho, hc⟩ | ⟨ho, hc⟩ | ⟨ho, hc⟩ | ⟨ho, hc⟩ | ⟨ho, hc, hd⟩ | ⟨ho, hc⟩ | ⟨ho, hc, hd⟩ | ⟨ho, hc⟩ | ⟨ho, hc⟩ | ⟨ho, hc⟩ | ⟨ho, hc, hd⟩ | ⟨ho, hc, hd⟩ | ⟨ho, hc⟩
      · subst ho
        have e := w_go_0 H ctx o1
        refine sets hc (by decide) ?_ e
        rw [o2 (by decide) (by decide), hy]
        rw [rk_43]
        unfold valOf
        rw [if_pos (show ((-1, 0) : Int32 × Int32).1 = -1 from rfl)]
        exact (Int32.add_zero _).symm
      · subst ho
        have e := w_go_1 H ctx o1
        refine sets hc (by decide) ?_ e
        rw [o2 (by decide) (by decide), o3 (by decide), rk_43]
      · subst ho
        have e := w_go_2 H ctx o1
        refine sets hc (by decide) ?_ e
        rw [o2 (by decide) (by decide), o3 (by decide), rk_45]
      · subst ho
        have e := w_go_3 H ctx o1
        refine sets hc (by decide) ?_ e
        rw [o2 (by decide) (by decide), o3 (by decide), rk_42]
      · subst ho
        have e := w_go_4 H ctx o1
        refine sets hc (by decide) ?_ e
        rw [o2 (by decide) (by decide), o3 (by decide), rk_60]
      · subst ho
        have e := w_go_5 H ctx o1
        refine sets hc (by decide) ?_ e
        rw [o2 (by decide) (by decide), o3 (by decide), rk_61]
      · subst ho; exact s_6 C G hS hN o1 hc hd (o2 (by decide) (by decide))
      · subst ho; exact s_7 C G hS hN o1 hc
      · subst ho; exact s_8 C G hS hN o1 hc hd (o2 (by decide) (by decide))
      · subst ho; exact s_9 C G hS hN o1 hc (o2 (by decide) (by decide))
      · subst ho; exact s_10 C G hS hN o1 hc (o2 (by decide) (by decide))
      · subst ho; exact s_11 C G hS hN o1 hc (o2 (by decide) (by decide)) (o3 (by decide))
      · subst ho
        have e := w_go_12 H ctx o1
        obtain ⟨-, -, hq⟩ := hP.2 _ hS
        obtain ⟨g, hg, eg⟩ : ∃ g, g ≤ P.length ∧ (stpAt P (wkS W)).2.1 = nI g := by
          rcases hq with ⟨hq, -⟩ | ⟨-, hq⟩ | hq
          · rw [hc] at hq; unfold stSets at hq; exact absurd hq (by decide)
          · exact hq
          · rw [hc] at hq; exact absurd hq (by decide)
        rw [o2 (by decide) (by decide), hd, eg] at e
        refine s_jump (p1 := if valOf (wkV W) (stpAt P (wkS W)).2.2.2.1 = 0 then wkS W + 1 else g) C G hS hN (Or.inr (Or.inl hc)) ?_ e ?_
        · unfold wkWalk
          simp only []
          rw [if_neg (by rw [hc]; decide), if_pos hc, eg, zi_nat (by have := hP.1; omega)]
          by_cases c : valOf (wkV W) (stpAt P (wkS W)).2.2.2.1 = 0
          · rw [if_neg (fun q => q c), if_pos c]
          · rw [if_pos c, if_neg c]
        · by_cases c : valOf (wkV W) (stpAt P (wkS W)).2.2.2.1 = 0
          · rw [if_pos c, if_pos c]
          · rw [if_neg c, if_neg c]
      · subst ho
        have e := w_go_13 H ctx o1
        obtain ⟨-, -, hq⟩ := hP.2 _ hS
        obtain ⟨g, hg, eg⟩ : ∃ g, g ≤ P.length ∧ (stpAt P (wkS W)).2.1 = nI g := by
          rcases hq with ⟨hq, -⟩ | ⟨-, hq⟩ | hq
          · rw [hc] at hq; unfold stSets at hq; exact absurd hq (by decide)
          · exact hq
          · rw [hc] at hq; exact absurd hq (by decide)
        rw [hd, eg] at e
        refine s_jump (p1 := g) C G hS hN (Or.inl hc) ?_ e rfl
        unfold wkWalk
        simp only []
        rw [if_pos hc, eg, zi_nat (by have := hP.1; omega)]
      · subst ho; exact s_14 C G hS hN o1 hc (o2 (by decide) (by decide))
    · have e200 : wkN W = 200 := by omega
      have hw : wkWish P (rpO es) now W = some (12, -1, 0) := by unfold wkWish; rw [if_neg (by omega), if_pos (by omega)]
      obtain ⟨r, h1, e1, f1, d1⟩ := own_at C G hw (by decide) (by decide)
      rw [e200] at q5
      exact ⟨h1, w_go_over H hw64 ht hS hP.1 c1 c2 q1 q5 e1, f1, d1⟩
  · have hw : wkWish P (rpO es) now W = some (10, 0, 0) := by unfold wkWish; rw [if_pos (by omega)]
    obtain ⟨r, h1, e1, f1, d1⟩ := own_at C G hw (by decide) (by decide)
    have : wkS W = P.length := by omega
    rw [this] at q1
    exact ⟨h1, w_go_end (p := 0) H hw64 ht c1 c2 q1 e1, f1, d1⟩
/-- the loop goes to where the events end -/
theorem w_loop (m : Nat) : ∀ (n : Nat) (h : Hp) (k : Nat) (W : Wkr), gtC h N w t B E es P now → gtH h w es P k W → (es.length - k) * 300 + (201 - wkN W) < m → m ≤ n → ∃ h1 n1, f_X11_goThrough_100 n 616 (nI w) h = f_X11_goThrough_100 (n1 + 1) 616 (nI w) h1 ∧ frx (gsS w) h h1 ∧ gtC h1 N w t B E es P now ∧ gtZ h1 w es P now := by
  induction m with
  | zero => intro n h k W _ _ hm; exact absurd hm (Nat.not_lt_zero _)
  | succ m ih =>
    intro n h k W C G hm hn
    obtain ⟨n, rfl⟩ : ∃ n1, n = n1 + 1 := ⟨n - 1, by omega⟩
    obtain ⟨h1, e1, f1, d1⟩ := w_step C G
    have hw64 : w < 64 := C.2.2.1.2.1
    have H := C.1
    have nx : (nI w).toNatClampNeg = w := zi_nat (by omega)
    have gx : ¬ nI w < 0 := zi_neg (by omega)
    have lx : ¬ 64 ≤ w := by omega
    have e6 := G.2.1
    have e : f_X11_goThrough_100 (n + 1) 616 (nI w) h = f_X11_goThrough_100 n 616 (nI w) h1 := by
      simp only [f_X11_goThrough_100, o10, o00, bh, isO, inR, ck_true, bind_some9, Nat.reduceLeDiff, Nat.reduceEqDiff, and_self, and_true, true_and, false_and, and_false, not_false_eq_true, not_true_eq_false, or_self, or_false, false_or, if_true, if_false, reduceIte, RF_o H, RF_1241 H, RO_649 H, RL_649 H, RF_1243 H, RO_651 H, RL_651 H, RF_1246 H, RO_654 H, RL_654 H, RF_1247 H, RO_655 H, RL_655 H, zR_pE, zT_pE, zL_pE, zn_pE, zE_pE, zI_pE, zR_pI, zT_pI, zL_pI, zn_pI, zE_pI, zI_pI, nx, gx, lx, e6, ko_6_6, e1]
    rw [e]
    have C1 := C.on f1
    have gN := G.2.2.2.2.1.2.1
    rcases d1 with z | ⟨k1, W1, G1, lt⟩
    · have hm1 : 1 ≤ m := by
        generalize (es.length - k) * 300 = z at hm
        omega
      have hn2 : n ≠ 0 := by clear e; clear hm; omega
      obtain ⟨n1, en⟩ := Nat.exists_eq_succ_of_ne_zero hn2
      exact ⟨h1, n1, by rw [en], f1, C1, z⟩
    · obtain ⟨h2, n2, a1, a2, a3, a4⟩ := ih n h1 k1 W1 C1 G1 (Nat.lt_of_lt_of_le lt (Nat.le_of_lt_succ hm)) (Nat.le_of_succ_le_succ hn)
      exact ⟨h2, n2, a1, f1.trans a2, a3, a4⟩
/-- how many signals came -/
theorem w_signals_go (H : RF h) (hw : w < 64) (hN : N ≤ 60000) (ev : evsAt h N w E es) : ∀ (m j c n : Nat), j + m = es.length → m < n → f_X11_signals_5 n 616 (nI w) (nI es.length) (nI c) (nI j) h = some (nI (c + sigs (es.drop j)), h)
  | m, j, c, 0, _, hn => absurd hn (Nat.not_lt_zero _)
  | 0, j, c, n + 1, hj, hn => by
    have hes := ev.2.1.2
    have c1 : nI es.length ≤ nI j := (zi_le (by omega) (by omega)).mpr (by omega)
    rw [List.drop_of_length_le (by omega)]
    unfold f_X11_signals_5
    rw [if_pos c1]
    rfl
  | m + 1, j, c, n + 1, hj, hn => by
    have hes := ev.2.1.2
    have c1 : ¬ nI es.length ≤ nI j := zi_le0 (by omega) (by omega) (by omega)
    have hj2 : j < es.length := by omega
    obtain ⟨i, rn, rt, hi, hrn, hK, hiE, hrec⟩ := ev.at hj2
    have eE := w_event H hw (by omega) hiE
    have eK : f_X11_kindOf 616 (nI i) h = some (nI (evAt es j).1, h) := w_kind H (by omega) hrec hK hrn
    have ed : es.drop j = evAt es j :: es.drop (j + 1) := by
      rw [List.drop_eq_getElem_cons hj2]
      congr 1
      unfold evAt
      rw [List.getD_eq_getElem?_getD, List.getElem?_eq_getElem hj2]
      rfl
    have es9 : sigs (es.drop j) = (if (evAt es j).1 = 8 then 1 else 0) + sigs (es.drop (j + 1)) := by
      rw [ed]
      unfold sigs
      rw [List.filter_cons]
      by_cases c8 : (evAt es j).1 = 8
      · rw [if_pos (decide_eq_true c8), if_pos c8, List.length_cons]; omega
      · rw [if_neg (by simp [c8]), if_neg c8]; omega
    have c8i : nI (evAt es j).1 = (8 : Int32) ↔ (evAt es j).1 = 8 := zi_eq (b := 8) (by omega) (by omega)
    have ih := w_signals_go H hw hN ev m (j + 1) (c + if (evAt es j).1 = 8 then 1 else 0) n (by omega) (by omega)
    rw [es9]
    by_cases c8 : (evAt es j).1 = 8
    · rw [if_pos c8] at ih ⊢
      have c9 : (nI (evAt es j).1 = (8 : Int32)) = True := eq_true (c8i.mpr c8)
      simp only [f_X11_signals_5, f_X11_signals_33, o10, o00, bh, isO, inR, ck_true, bind_some9, Nat.reduceLeDiff, Nat.reduceEqDiff, and_self, and_true, true_and, false_and, and_false, not_false_eq_true, not_true_eq_false, or_self, or_false, false_or, if_true, if_false, reduceIte, RF_o H, zR_pE, zT_pE, zL_pE, zn_pE, zE_pE, zI_pE, zR_pI, zT_pI, zL_pI, zn_pI, zE_pI, zI_pI, c1, eE, eK, c9, zi_one, ih, Nat.add_assoc]
    · rw [if_neg c8, Nat.add_zero] at ih
      rw [if_neg c8]
      have z0 : nI c + (0 : Int32) = nI c := zi_add c 0
      simp only [f_X11_signals_5, f_X11_signals_33, o10, o00, bh, isO, inR, ck_true, bind_some9, Nat.reduceLeDiff, Nat.reduceEqDiff, and_self, and_true, true_and, false_and, and_false, not_false_eq_true, not_true_eq_false, or_self, or_false, false_or, if_true, if_false, reduceIte, RF_o H, zR_pE, zT_pE, zL_pE, zn_pE, zE_pE, zI_pE, zR_pI, zT_pI, zL_pI, zn_pI, zE_pI, zI_pI, c1, eE, eK, c8i, c8, zi_one, z0, ih, Nat.zero_add]
theorem w_signals (H : RF h) (hw : w < 64) (hN : N ≤ 60000) (ev : evsAt h N w E es) : f_X11_signals 616 (nI w) (nI es.length) h = some (nI (sigs es), h) := by
  have hes := ev.2.1.2
  have := w_signals_go H hw hN ev es.length 0 0 fz (by omega) (fz_big (by omega))
  rw [List.drop_zero, Nat.zero_add] at this
  exact this
end Walk9
/-! TEXTS -/
/-- texts in their order: program, turn, first step, steps -/
def txOK (h : Hp) (vs : Nat → List Prg) (TX : List (Nat × Nat × Nat × Prg)) : Prop := TX.length ≤ 4100 ∧ (∀ (t : Nat) (x : Nat × Nat × Nat × Prg), TX[t]? = some x → (zE h 618 t = nI x.1 ∧ zE h 619 t = nI x.2.1 ∧ zE h 620 t = nI x.2.2.1 ∧ zE h 621 t = nI x.2.2.2.length) ∧ (x.1 < 8 ∧ x.2.1 ≤ 4100 ∧ x.2.2.1 + x.2.2.2.length ≤ 11100) ∧ (vs x.1)[x.2.1]? = some x.2.2.2 ∧ (∀ j, j < x.2.2.2.length → stAt h (x.2.2.1 + j) (stpAt x.2.2.2 j)) ∧ prgOK x.2.2.2) ∧ ∀ (p v : Nat) (P : Prg), p < 8 → (vs p)[v]? = some P → ∃ (t S : Nat), TX[t]? = some (p, v, S, P)
theorem w_textFor_go {h : Hp} (H : RF h) {vs : Nat → List Prg} {TX : List (Nat × Nat × Nat × Prg)} (T : txOK h vs TX) {p v : Nat} (hp : p < 8) (hv : v ≤ 4100) {a : Int32} (ha : a = nI (p + 8 * v)) {t0 S0 : Nat} {P0 : Prg} (h0 : TX[t0]? = some (p, v, S0, P0)) : ∀ (m k n : Nat), k + m = t0 → m < n → ∃ (t S : Nat) (P : Prg), f_X11_textFor_2 n 616 a (nI k) h = some (nI t, h) ∧ TX[t]? = some (p, v, S, P)
  | m, k, 0, _, hn => absurd hn (Nat.not_lt_zero _)
  | m, k, n + 1, hk, hn => by
    have hl0 := (List.getElem?_eq_some_iff.mp h0).1
    have hk4 : k < TX.length := by omega
    have h41 := T.1
    have nx : (nI k).toNatClampNeg = k := zi_nat (by omega)
    have gx : ¬ nI k < 0 := zi_neg (by omega)
    have lx : ¬ 4100 ≤ k := by omega
    have em : a - a / (8 : Int32) * 8 = nI p := by
      rw [ha, show (8 : Int32) = nI 8 from rfl, zi_mod (by omega) (by omega) (by omega), show (p + 8 * v) % 8 = p by omega]
    have ed : a / (8 : Int32) = nI v := by
      rw [ha, show (8 : Int32) = nI 8 from rfl, zi_div (by omega) (by omega) (by omega), show (p + 8 * v) / 8 = v by omega]
    rw [ed] at em
    have hx : TX[k]? = some (TX[k]'hk4) := List.getElem?_eq_getElem hk4
    generalize TX[k]'hk4 = x at hx
    obtain ⟨⟨x1, x2, x3, x4⟩, ⟨y1, y2, y3⟩, -, -, -⟩ := T.2.1 k x hx
    have q1 : nI x.1 = nI p ↔ x.1 = p := zi_eq (by omega) (by omega)
    have q2 : nI x.2.1 = nI v ↔ x.2.1 = v := zi_eq (by omega) (by omega)
    by_cases c1 : x.1 = p
    · by_cases c2 : x.2.1 = v
      · refine ⟨k, x.2.2.1, x.2.2.2, ?_, by rw [hx, ← c1, ← c2]⟩
        have d1 := eq_true (q1.mpr c1)
        have d2 := eq_true (q2.mpr c2)
        simp only [f_X11_textFor_2, o10, o00, bh, isO, inR, ck_true, bind_some9, Nat.reduceLeDiff, Nat.reduceEqDiff, and_self, and_true, true_and, false_and, and_false, not_false_eq_true, not_true_eq_false, or_self, or_false, false_or, if_true, if_false, reduceIte, RF_o H, RF_1207 H, RO_618 H, RL_618 H, RF_1208 H, RO_619 H, RL_619 H, zR_pE, zT_pE, zL_pE, zn_pE, zE_pE, zI_pE, zR_pI, zT_pI, zL_pI, zn_pI, zE_pI, zI_pI, nx, gx, lx, em, ed, x1, x2, d1, d2]
      · have d1 := eq_true (q1.mpr c1)
        have d2 := eq_false (fun q => c2 (q2.mp q))
        cases m with
        | zero =>
          have : k = t0 := by omega
          rw [this, h0] at hx
          exact absurd (congrArg (fun z => z.2.1) (Option.some.inj hx)).symm c2
        | succ m =>
          obtain ⟨t, S, P, e1, e2⟩ := w_textFor_go H T hp hv ha h0 m (k + 1) n (by omega) (by omega)
          refine ⟨t, S, P, ?_, e2⟩
          simp only [f_X11_textFor_2, f_X11_textFor_28, o10, o00, bh, isO, inR, ck_true, bind_some9, Nat.reduceLeDiff, Nat.reduceEqDiff, and_self, and_true, true_and, false_and, and_false, not_false_eq_true, not_true_eq_false, or_self, or_false, false_or, if_true, if_false, reduceIte, RF_o H, RF_1207 H, RO_618 H, RL_618 H, RF_1208 H, RO_619 H, RL_619 H, zR_pE, zT_pE, zL_pE, zn_pE, zE_pE, zI_pE, zR_pI, zT_pI, zL_pI, zn_pI, zE_pI, zI_pI, nx, gx, lx, em, ed, x1, x2, d1, d2, zi_one, e1]
    · have d1 := eq_false (fun q => c1 (q1.mp q))
      cases m with
      | zero =>
        have : k = t0 := by omega
        rw [this, h0] at hx
        exact absurd (congrArg (fun z => z.1) (Option.some.inj hx)).symm c1
      | succ m =>
        obtain ⟨t, S, P, e1, e2⟩ := w_textFor_go H T hp hv ha h0 m (k + 1) n (by omega) (by omega)
        refine ⟨t, S, P, ?_, e2⟩
        simp only [f_X11_textFor_2, f_X11_textFor_28, o10, o00, bh, isO, inR, ck_true, bind_some9, Nat.reduceLeDiff, Nat.reduceEqDiff, and_self, and_true, true_and, false_and, and_false, not_false_eq_true, not_true_eq_false, or_self, or_false, false_or, if_true, if_false, reduceIte, RF_o H, RF_1207 H, RO_618 H, RL_618 H, RF_1208 H, RO_619 H, RL_619 H, zR_pE, zT_pE, zL_pE, zn_pE, zE_pE, zI_pE, zR_pI, zT_pI, zL_pI, zn_pI, zE_pI, zI_pI, nx, gx, lx, em, ed, x1, x2, d1, zi_one, e1]
theorem prgOf_split {vs : Nat → List Prg} {a : Int32} {P : Prg} (ha : ¬ a < 0) (hP : prgOf vs a = some P) (hv : ∀ p, p < 8 → (vs p).length ≤ 4100) : ∃ p v, p < 8 ∧ v ≤ 4100 ∧ a = nI (p + 8 * v) ∧ (vs p)[v]? = some P := by
  obtain ⟨n, n1, n2⟩ := zi_of ha
  unfold prgOf at hP
  rw [n2, zi_nat n1] at hP
  have := (List.getElem?_eq_some_iff.mp hP).1
  have := hv (n % 8) (by omega)
  exact ⟨n % 8, n / 8, by omega, by omega, by rw [n2]; congr 1; omega, hP⟩
theorem w_textFor {h : Hp} (H : RF h) {vs : Nat → List Prg} {TX : List (Nat × Nat × Nat × Prg)} (T : txOK h vs TX) (hv : ∀ p, p < 8 → (vs p).length ≤ 4100) {a : Int32} {P : Prg} (ha : ¬ a < 0) (hP : prgOf vs a = some P) : ∃ t B, f_X11_textFor 616 a h = some (nI t, h) ∧ t < 4100 ∧ B + P.length ≤ 11100 ∧ zE h 621 t = nI P.length ∧ zE h 620 t = nI B ∧ (∀ j, j < P.length → stAt h (B + j) (stpAt P j)) ∧ prgOK P := by
  obtain ⟨p, v, hp, hv4, ea, hx⟩ := prgOf_split ha hP hv
  obtain ⟨t0, S0, h0⟩ := T.2.2 p v P hp hx
  have hl0 := (List.getElem?_eq_some_iff.mp h0).1
  have h41 := T.1
  obtain ⟨t, S, P1, e1, e2⟩ := w_textFor_go H T hp hv4 ea h0 t0 0 fz (by omega) (fz_big (by omega))
  obtain ⟨⟨x1, x2, x3, x4⟩, ⟨y1, y2, y3⟩, z1, z2, z3⟩ := T.2.1 t _ e2
  have eP : P1 = P := Option.some.inj (z1.symm.trans hx)
  have hlt := (List.getElem?_eq_some_iff.mp e2).1
  rw [← eP]
  exact ⟨t, S, e1, by omega, y3, x4, x3, z2, z3⟩
/-! GOING THROUGH -/
/-- a workflow as the reference shows it -/
def rfF (h : Hp) (w : Nat) (es : List Evt) (P : Prg) : Prop := (zE h 651 w = nI (wkP (rpR P es)) ∧ wkP (rpR P es) ≤ 5) ∧ (∀ v, v < 8 → zE h 653 (8 * w + v) = wkV (rpR P es) v) ∧ (wkP (rpR P es) = 4 → zE h 652 w = wkO (rpR P es)) ∧ (wkP (rpR P es) = 1 → zE h 659 w = wkA (rpR P es)) ∧ zE h 654 w = nI (wkC (rpR P es)) ∧ zE h 655 w = nI (sigs es - wkT (rpR P es)) ∧ wkC (rpR P es) ≤ 60
/-- what it wants -/
def rfW (h : Hp) (w : Nat) (es : List Evt) (P : Prg) (now : Int32) : Prop := wkP (rpR P es) = 5 → ∃ kd a b, wkWish P (rpO es) now (rpR P es) = some (kd, a, b) ∧ kd < 16 ∧ zE h 656 w = nI kd ∧ zE h 657 w = a ∧ zE h 658 w = b
/-- locals are cleared -/
theorem w_clear_go {w : Nat} (hw : w < 64) : ∀ (m v n : Nat) (h : Hp), RF h → v + m = 8 → m < n → (∀ u, u < v → zE h 653 (8 * w + u) = 0) → ∃ h1 n1, f_X11_goThrough_23 n 616 (nI w) (nI v) h = f_X11_goThrough_23 (n1 + 1) 616 (nI w) (nI 8) h1 ∧ frx (fun a j => a = 653 ∧ j / 8 = w) h h1 ∧ ∀ u, u < 8 → zE h1 653 (8 * w + u) = 0
  | m, v, 0, h, _, _, hn, _ => absurd hn (Nat.not_lt_zero _)
  | 0, v, n + 1, h, H, hv, hn, hz => by
    have : v = 8 := by omega
    rw [this] at hz ⊢
    exact ⟨h, n, rfl, frx.rf h, hz⟩
  | m + 1, v, n + 1, h, H, hv, hn, hz => by
    have n8 : (nI (8 * w + v)).toNatClampNeg = 8 * w + v := zi_nat (by omega)
    have g8 : ¬ nI (8 * w + v) < 0 := zi_neg (by omega)
    have l8 : ¬ 512 ≤ 8 * w + v := by omega
    have c1 : ¬ (8 : Int32) ≤ nI v := fun q => absurd ((zi_le (a := 8) (by omega) (by omega)).mp q) (by omega)
    have f1 : frx (fun a j => a = 653 ∧ j / 8 = w) h (pE h 653 (8 * w + v) 0) := frx_pE ⟨rfl, by omega⟩
    obtain ⟨h1, n1, a1, a2, a3⟩ := w_clear_go hw m (v + 1) n (pE h 653 (8 * w + v) 0) (H.on f1) (by omega) (by omega) (fun u hu => by
      simp only [zE_pE, true_and]
      by_cases c : 8 * w + u = 8 * w + v
      · rw [if_pos c]
      · rw [if_neg c]; exact hz u (by omega))
    refine ⟨h1, n1, ?_, f1.trans a2, a3⟩
    rw [← a1]
    simp only [f_X11_goThrough_23, o10, o00, bh, isO, inR, ck_true, bind_some9, Nat.reduceLeDiff, Nat.reduceEqDiff, and_self, and_true, true_and, false_and, and_false, not_false_eq_true, not_true_eq_false, or_self, or_false, false_or, if_true, if_false, reduceIte, RF_o H, RF_1228 H, RO_636 H, RL_636 H, RF_1243 H, RO_651 H, RL_651 H, RF_1245 H, RO_653 H, RL_653 H, zR_pE, zT_pE, zL_pE, zn_pE, zE_pE, zI_pE, zR_pI, zT_pI, zL_pI, zn_pI, zE_pI, zI_pI, c1, zi_8, n8, g8, l8, zi_one]
/-- what going through leaves as it was -/
theorem txOK.on {S : Nat → Nat → Prop} {h h1 : Hp} {vs : Nat → List Prg} {TX : List (Nat × Nat × Nat × Prg)} (T : txOK h vs TX) (p : frx S h h1) (hs : ∀ a j, 618 ≤ a → a ≤ 630 → ¬ S a j) : txOK h1 vs TX := by
  obtain ⟨t1, t2, t3⟩ := T
  refine ⟨t1, fun t x hx => ?_, t3⟩
  obtain ⟨⟨x1, x2, x3, x4⟩, y, z1, z2, z3⟩ := t2 t x hx
  have e : ∀ a j, 618 ≤ a → a ≤ 630 → zE h1 a j = zE h a j := fun a j g1 g2 => p.2.2.2 a j (hs a j g1 g2)
  exact ⟨⟨by rw [e _ _ (by omega) (by omega)]; exact x1, by rw [e _ _ (by omega) (by omega)]; exact x2, by rw [e _ _ (by omega) (by omega)]; exact x3, by rw [e _ _ (by omega) (by omega)]; exact x4⟩, y, z1, fun j hj => (z2 j hj).on p (fun a g1 g2 => hs a _ (by omega) g2), z3⟩
/-- how a walk begins -/
def gt0 (h : Hp) (w : Nat) (x : Int32) : Hp := pE (pI (pI (pI (pI (pI (pE h 653 (8 * w) x) 1263 616 0) 1264 616 1) 1265 616 0) 1266 616 0) 1267 616 0) 651 w 6
theorem zI_gt (h : Hp) (f g : Nat) (v : Int32) (ne : ¬ f = g) : zI (pI h g 616 v) f 616 = zI h f 616 := by rw [zI_pI, if_neg (fun q => ne q.1)]
theorem zI_gs (h : Hp) (f : Nat) (v : Int32) : zI (pI h f 616 v) f 616 = v := by rw [zI_pI, if_pos ⟨rfl, rfl⟩]
theorem gt0_3 (h : Hp) (w : Nat) (x : Int32) : zI (gt0 h w x) 1263 616 = 0 := by
  unfold gt0
  rw [zI_pE, zI_gt _ _ _ _ (by decide), zI_gt _ _ _ _ (by decide), zI_gt _ _ _ _ (by decide), zI_gt _ _ _ _ (by decide), zI_gs]
theorem gt0_4 (h : Hp) (w : Nat) (x : Int32) : zI (gt0 h w x) 1264 616 = 1 := by
  unfold gt0
  rw [zI_pE, zI_gt _ _ _ _ (by decide), zI_gt _ _ _ _ (by decide), zI_gt _ _ _ _ (by decide), zI_gs]
theorem gt0_5 (h : Hp) (w : Nat) (x : Int32) : zI (gt0 h w x) 1265 616 = 0 := by
  unfold gt0
  rw [zI_pE, zI_gt _ _ _ _ (by decide), zI_gt _ _ _ _ (by decide), zI_gs]
theorem gt0_6 (h : Hp) (w : Nat) (x : Int32) : zI (gt0 h w x) 1266 616 = 0 := by
  unfold gt0
  rw [zI_pE, zI_gt _ _ _ _ (by decide), zI_gs]
theorem gt0_7 (h : Hp) (w : Nat) (x : Int32) : zI (gt0 h w x) 1267 616 = 0 := by
  unfold gt0
  rw [zI_pE, zI_gs]
theorem zi_n1 : (1 : Int32) = nI 1 := rfl
theorem w_goThrough {h : Hp} (H : RF h) {N w : Nat} {E : List Nat} {es : List Evt} {P : Prg} {now : Int32} {vs : Nat → List Prg} {TX : List (Nat × Nat × Nat × Prg)} (T : txOK h vs TX) (hv : ∀ p, p < 8 → (vs p).length ≤ 4100) (hw : w < 64) (hN : N ≤ 60000) (ev : evsAt h N w E es) (hs : hsOK P es) (hP : prgIs vs es P) (ha : ¬ (evAt es 0).2.1 < 0) (hnow : zI h 1201 616 = now) :
    ∃ h1, f_X11_goThrough 616 (nI w) h = some h1 ∧ frx (gtS w) h h1 ∧ rfF h1 w es P ∧ rfW h1 w es P now := by
  have hes := hs.2.1
  obtain ⟨t, B, t1, t2, t3, t4, t5, t6, hPok⟩ := w_textFor H T hv ha hP
  obtain ⟨i, rn, rt, hi, hrn, hK, hiE, hrec⟩ := ev.at hs.1
  have eE := w_event H hw (by omega) hiE
  have rA : zE h 635 i = (evAt es 0).2.1 := hrec.2.2.1
  have rB : zE h 636 i = (evAt es 0).2.2.1 := hrec.2.2.2.1
  have ni : (nI i).toNatClampNeg = i := zi_nat (by omega)
  have gi : ¬ nI i < 0 := zi_neg (by omega)
  have li : ¬ 60000 ≤ i := by omega
  have nx : (nI w).toNatClampNeg = w := zi_nat (by omega)
  have gx : ¬ nI w < 0 := zi_neg (by omega)
  have lx : ¬ 64 ≤ w := by omega
  have f1 : frx (gtS w) h (pE h 650 w (nI t)) := frx_pE (by unfold gtS; omega)
  have H1 := H.on f1
  obtain ⟨h2, n2, a1, a2, a3⟩ := w_clear_go hw 8 0 fz _ H1 (by omega) (fz_big (by omega)) (fun u hu => by omega)
  have a2g : frx (gtS w) (pE h 650 w (nI t)) h2 := a2.mono (fun a j q => by unfold gtS; omega)
  have f2 := f1.trans a2g
  have H2 := H.on f2
  have eE2 := w_event H2 hw (by omega : 0 < 60) (i := i) (by rw [f2.2.2.2 648 _ (by unfold gtS; omega)]; exact hiE)
  have rB2 : zE h2 636 i = (evAt es 0).2.2.1 := by rw [f2.2.2.2 636 _ (by unfold gtS; omega)]; exact rB
  generalize hh9 : gt0 h2 w (evAt es 0).2.2.1 = h9
  have f9 : frx (gtS w) h2 h9 := by
    rw [← hh9]
    unfold gt0
    exact ((((((frx_pE (by unfold gtS; omega)).trans (frx_pI (by unfold gtS; omega))).trans (frx_pI (by unfold gtS; omega))).trans (frx_pI (by unfold gtS; omega))).trans (frx_pI (by unfold gtS; omega))).trans (frx_pI (by unfold gtS; omega))).trans (frx_pE (by unfold gtS; omega))
  have fa := f2.trans f9
  have n8 : (nI (8 * w)).toNatClampNeg = 8 * w := zi_nat (by omega)
  have g8 : ¬ nI (8 * w) < 0 := zi_neg (by omega)
  have l8 : ¬ 512 ≤ 8 * w := by omega
  have m8 : (8 : Int32) * nI w = nI (8 * w) := zi_mul 8 w
  have c8 : (8 : Int32) ≤ nI 8 := (zi_le (a := 8) (by omega) (by omega)).mpr (Nat.le_refl _)
  have e23 : f_X11_goThrough_23 (n2 + 1) 616 (nI w) (nI 8) h2 = f_X11_goThrough_100 fz 616 (nI w) h9 := by
    have H := H2
    have eE2 : f_X11_event 616 (nI w) 0 h2 = some (nI i, h2) := eE2
    simp only [f_X11_goThrough_23, o10, o00, bh, isO, inR, ck_true, bind_some9, Nat.reduceLeDiff, Nat.reduceEqDiff, and_self, and_true, true_and, false_and, and_false, not_false_eq_true, not_true_eq_false, or_self, or_false, false_or, if_true, if_false, reduceIte, RF_o H, RF_1228 H, RO_636 H, RL_636 H, RF_1243 H, RO_651 H, RL_651 H, RF_1245 H, RO_653 H, RL_653 H, zR_pE, zT_pE, zL_pE, zn_pE, zE_pE, zI_pE, zR_pI, zT_pI, zL_pI, zn_pI, zE_pI, zI_pI, c8, eE2, ni, gi, li, rB2, m8, n8, g8, l8, nx, gx, lx, ← hh9, gt0]
  have e0 : f_X11_goThrough 616 (nI w) h = f_X11_goThrough_100 fz 616 (nI w) h9 := by
    rw [← e23, ← a1]
    have eE : f_X11_event 616 (nI w) 0 h = some (nI i, h) := eE
    simp only [f_X11_goThrough, o10, o00, bh, isO, inR, ck_true, bind_some9, Nat.reduceLeDiff, Nat.reduceEqDiff, and_self, and_true, true_and, false_and, and_false, not_false_eq_true, not_true_eq_false, or_self, or_false, false_or, if_true, if_false, reduceIte, RF_o H, RF_1227 H, RO_635 H, RL_635 H, RF_1242 H, RO_650 H, RL_650 H, zR_pE, zT_pE, zL_pE, zn_pE, zE_pE, zI_pE, zR_pI, zT_pI, zL_pI, zn_pI, zE_pI, zI_pI, eE, ni, gi, li, rA, t1, nx, gx, lx]
    exact congrArg (fun z => f_X11_goThrough_23 fz 616 (nI w) z (pE h 650 w (nI t))) zi_zero
  have ev9 : evsAt h9 N w E es := ev.on fa (fun a i _ => gtS_rec w a i) (gtS_ev w)
  have C : gtC h9 N w t B E es P now := by
    refine ⟨H.on fa, ev9, ⟨hN, hw, t2, t3⟩, ⟨?_, ?_, ?_⟩, fun j hj => (t6 j hj).on fa (fun a g1 g2 => by unfold gtS; omega), by rw [fa.2.2.1 1201 (by unfold gtS; omega)]; exact hnow, hPok, hs⟩
    · rw [← hh9]
      unfold gt0
      simp only [zE_pE, zE_pI, Nat.reduceEqDiff, false_and, if_false]
      rw [a2.2.2.2 650 w (by omega)]
      simp only [zE_pE, and_self, if_true]
    · rw [fa.2.2.2 621 t (by unfold gtS; omega)]; exact t4
    · rw [fa.2.2.2 620 t (by unfold gtS; omega)]; exact t5
  have e1 : es.take 1 = [evAt es 0] := by rw [take_snoc hs.1]; rfl
  have hA1 : hA P es 1 = (upf (fun _ => 0) 0 (evAt es 0).2.2.1, 0, 0, 5, 0, 0, 0, 0) := by unfold hA; rw [e1]; rfl
  have gG := (wkG_all hPok hs 1 (by omega) hs.1).1
  rw [hA1] at gG
  have G : gtH h9 w es P 1 (upf (fun _ => 0) 0 (evAt es 0).2.2.1, 0, 0, 5, 0, 0, 0, 0) := by
    refine ⟨⟨⟨?_, ?_, ?_, ?_, ?_⟩, fun v hv => ?_⟩, ?_, rfl, ⟨Nat.le_refl _, hs.1⟩, gG, 201, by show 200 < 0 + 201; omega, ?_⟩
    · rw [← hh9, gt0_3]; exact zi_zero
    · rw [← hh9, gt0_4]; exact zi_n1
    · rw [← hh9, gt0_5]; exact zi_zero
    · rw [← hh9, gt0_6]; exact zi_zero
    · rw [← hh9, gt0_7]; exact zi_zero
    · rw [← hh9]; unfold gt0; simp only [zE_pE, zE_pI, Nat.reduceEqDiff, false_and, true_and, if_false]
      show _ = if v = 0 then _ else _
      by_cases c : v = 0
      · rw [if_pos (by omega), if_pos c]
      · rw [if_neg (by omega), if_neg c]; exact a3 v hv
    · rw [← hh9]; unfold gt0; simp only [zE_pE, and_self, if_true]; rfl
    · rw [hR_def, rpO_take (by omega), hA1]
  obtain ⟨h3, n3, b1, b2, b3, b4⟩ := w_loop ((es.length - 1) * 300 + 202) fz h9 1 _ C G (by show (es.length - 1) * 300 + (201 - 0) < _; omega) (Nat.le_of_lt (fz_big (by omega)))
  obtain ⟨z1, ⟨z2, z3⟩, z4, z5, z6, z7⟩ := b4
  have gR := (wkG_all hPok hs es.length (by have := hs.1; omega) (Nat.le_refl _)).2
  rw [hR_all, List.take_length] at gR
  have n6 : ¬ nI (wkP (rpR P es)) = (6 : Int32) := fun q => by
    have := (zi_eq (b := 6) (by have := gR.2.2.2.2.1; omega) (by omega)).mp q
    have := gR.2.2.2.2.1
    omega
  have ev3 := b3.2.1
  have f4 : frx (gtS w) h3 (pE h3 654 w (nI (wkC (rpR P es)))) := frx_pE (by unfold gtS; omega)
  have H3 := b3.1
  have es4 := w_signals (H3.on f4) hw hN (ev3.on f4 (fun a i _ => gtS_rec w a i) (gtS_ev w))
  have sgle := sigs_le es
  have esub : nI (sigs es) - nI (wkT (rpR P es)) = nI (sigs es - wkT (rpR P es)) := zi_sub gR.2.2.1
  refine ⟨pE (pE h3 654 w (nI (wkC (rpR P es)))) 655 w (nI (sigs es - wkT (rpR P es))), ?_, (fa.trans (b2.mono (gsS_gt w))).trans (f4.trans (frx_pE (by unfold gtS; omega))), ?_, ?_⟩
  · rw [e0, b1]
    have H := H3
    have e49 : zE h3 649 w = nI es.length := ev3.1
    simp only [f_X11_goThrough_100, o10, o00, bh, isO, inR, ck_true, bind_some9, Nat.reduceLeDiff, Nat.reduceEqDiff, and_self, and_true, true_and, false_and, and_false, not_false_eq_true, not_true_eq_false, or_self, or_false, false_or, if_true, if_false, reduceIte, RF_o H, RF_1241 H, RO_649 H, RL_649 H, RF_1243 H, RO_651 H, RL_651 H, RF_1246 H, RO_654 H, RL_654 H, RF_1247 H, RO_655 H, RL_655 H, zR_pE, zT_pE, zL_pE, zn_pE, zE_pE, zI_pE, zR_pI, zT_pI, zL_pI, zn_pI, zE_pI, zI_pI, nx, gx, lx, z1, n6, z3, e49, es4, z2, esub]
  · refine ⟨⟨?_, gR.2.2.2.2.1⟩, fun v hv => ?_, fun q => ?_, fun q => ?_, ?_, ?_, by have := gR.2.2.2.1; omega⟩
    · simp only [zE_pE, Nat.reduceEqDiff, false_and, if_false]; exact z1
    · simp only [zE_pE, Nat.reduceEqDiff, false_and, if_false]; exact z4 v hv
    · simp only [zE_pE, Nat.reduceEqDiff, false_and, if_false]; exact z5 q
    · simp only [zE_pE, Nat.reduceEqDiff, false_and, if_false]; exact z6 q
    · simp only [zE_pE, Nat.reduceEqDiff, false_and, and_self, if_false, if_true]
    · simp only [zE_pE, and_self, if_true]
  · intro q
    obtain ⟨kd, a, b, y1, y2, y3, y4, y5⟩ := z7 q
    refine ⟨kd, a, b, y1, y2, ?_, ?_, ?_⟩
    · simp only [zE_pE, Nat.reduceEqDiff, false_and, if_false]; exact y3
    · simp only [zE_pE, Nat.reduceEqDiff, false_and, if_false]; exact y4
    · simp only [zE_pE, Nat.reduceEqDiff, false_and, if_false]; exact y5
