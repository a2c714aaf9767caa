theorem kd_0_l10 : (nI 0 < (10 : Int32)) = True := eq_true (by decide)
theorem kd_0_e0 : (nI 0 = (0 : Int32)) = True := eq_true (by decide)
theorem kd_0_e1 : (nI 0 = (1 : Int32)) = False := eq_false (by decide)
theorem kd_0_e2 : (nI 0 = (2 : Int32)) = False := eq_false (by decide)
theorem kd_0_e3 : (nI 0 = (3 : Int32)) = False := eq_false (by decide)
theorem kd_0_e5 : (nI 0 = (5 : Int32)) = False := eq_false (by decide)
theorem kd_0_e7 : (nI 0 = (7 : Int32)) = False := eq_false (by decide)
theorem kd_0_e8 : (nI 0 = (8 : Int32)) = False := eq_false (by decide)
theorem kd_1_l10 : (nI 1 < (10 : Int32)) = True := eq_true (by decide)
theorem kd_1_e0 : (nI 1 = (0 : Int32)) = False := eq_false (by decide)
theorem kd_1_e1 : (nI 1 = (1 : Int32)) = True := eq_true (by decide)
theorem kd_1_e2 : (nI 1 = (2 : Int32)) = False := eq_false (by decide)
theorem kd_1_e3 : (nI 1 = (3 : Int32)) = False := eq_false (by decide)
theorem kd_1_e5 : (nI 1 = (5 : Int32)) = False := eq_false (by decide)
theorem kd_1_e7 : (nI 1 = (7 : Int32)) = False := eq_false (by decide)
theorem kd_1_e8 : (nI 1 = (8 : Int32)) = False := eq_false (by decide)
theorem kd_2_l10 : (nI 2 < (10 : Int32)) = True := eq_true (by decide)
theorem kd_2_e0 : (nI 2 = (0 : Int32)) = False := eq_false (by decide)
theorem kd_2_e1 : (nI 2 = (1 : Int32)) = False := eq_false (by decide)
theorem kd_2_e2 : (nI 2 = (2 : Int32)) = True := eq_true (by decide)
theorem kd_2_e3 : (nI 2 = (3 : Int32)) = False := eq_false (by decide)
theorem kd_2_e5 : (nI 2 = (5 : Int32)) = False := eq_false (by decide)
theorem kd_2_e7 : (nI 2 = (7 : Int32)) = False := eq_false (by decide)
theorem kd_2_e8 : (nI 2 = (8 : Int32)) = False := eq_false (by decide)
theorem kd_3_l10 : (nI 3 < (10 : Int32)) = True := eq_true (by decide)
theorem kd_3_e0 : (nI 3 = (0 : Int32)) = False := eq_false (by decide)
theorem kd_3_e1 : (nI 3 = (1 : Int32)) = False := eq_false (by decide)
theorem kd_3_e2 : (nI 3 = (2 : Int32)) = False := eq_false (by decide)
theorem kd_3_e3 : (nI 3 = (3 : Int32)) = True := eq_true (by decide)
theorem kd_3_e5 : (nI 3 = (5 : Int32)) = False := eq_false (by decide)
theorem kd_3_e7 : (nI 3 = (7 : Int32)) = False := eq_false (by decide)
theorem kd_3_e8 : (nI 3 = (8 : Int32)) = False := eq_false (by decide)
theorem kd_4_l10 : (nI 4 < (10 : Int32)) = True := eq_true (by decide)
theorem kd_4_e0 : (nI 4 = (0 : Int32)) = False := eq_false (by decide)
theorem kd_4_e1 : (nI 4 = (1 : Int32)) = False := eq_false (by decide)
theorem kd_4_e2 : (nI 4 = (2 : Int32)) = False := eq_false (by decide)
theorem kd_4_e3 : (nI 4 = (3 : Int32)) = False := eq_false (by decide)
theorem kd_4_e5 : (nI 4 = (5 : Int32)) = False := eq_false (by decide)
theorem kd_4_e7 : (nI 4 = (7 : Int32)) = False := eq_false (by decide)
theorem kd_4_e8 : (nI 4 = (8 : Int32)) = False := eq_false (by decide)
theorem kd_5_l10 : (nI 5 < (10 : Int32)) = True := eq_true (by decide)
theorem kd_5_e0 : (nI 5 = (0 : Int32)) = False := eq_false (by decide)
theorem kd_5_e1 : (nI 5 = (1 : Int32)) = False := eq_false (by decide)
theorem kd_5_e2 : (nI 5 = (2 : Int32)) = False := eq_false (by decide)
theorem kd_5_e3 : (nI 5 = (3 : Int32)) = False := eq_false (by decide)
theorem kd_5_e5 : (nI 5 = (5 : Int32)) = True := eq_true (by decide)
theorem kd_5_e7 : (nI 5 = (7 : Int32)) = False := eq_false (by decide)
theorem kd_5_e8 : (nI 5 = (8 : Int32)) = False := eq_false (by decide)
theorem kd_6_l10 : (nI 6 < (10 : Int32)) = True := eq_true (by decide)
theorem kd_6_e0 : (nI 6 = (0 : Int32)) = False := eq_false (by decide)
theorem kd_6_e1 : (nI 6 = (1 : Int32)) = False := eq_false (by decide)
theorem kd_6_e2 : (nI 6 = (2 : Int32)) = False := eq_false (by decide)
theorem kd_6_e3 : (nI 6 = (3 : Int32)) = False := eq_false (by decide)
theorem kd_6_e5 : (nI 6 = (5 : Int32)) = False := eq_false (by decide)
theorem kd_6_e7 : (nI 6 = (7 : Int32)) = False := eq_false (by decide)
theorem kd_6_e8 : (nI 6 = (8 : Int32)) = False := eq_false (by decide)
theorem kd_7_l10 : (nI 7 < (10 : Int32)) = True := eq_true (by decide)
theorem kd_7_e0 : (nI 7 = (0 : Int32)) = False := eq_false (by decide)
theorem kd_7_e1 : (nI 7 = (1 : Int32)) = False := eq_false (by decide)
theorem kd_7_e2 : (nI 7 = (2 : Int32)) = False := eq_false (by decide)
theorem kd_7_e3 : (nI 7 = (3 : Int32)) = False := eq_false (by decide)
theorem kd_7_e5 : (nI 7 = (5 : Int32)) = False := eq_false (by decide)
theorem kd_7_e7 : (nI 7 = (7 : Int32)) = True := eq_true (by decide)
theorem kd_7_e8 : (nI 7 = (8 : Int32)) = False := eq_false (by decide)
theorem kd_8_l10 : (nI 8 < (10 : Int32)) = True := eq_true (by decide)
theorem kd_8_e0 : (nI 8 = (0 : Int32)) = False := eq_false (by decide)
theorem kd_8_e1 : (nI 8 = (1 : Int32)) = False := eq_false (by decide)
theorem kd_8_e2 : (nI 8 = (2 : Int32)) = False := eq_false (by decide)
theorem kd_8_e3 : (nI 8 = (3 : Int32)) = False := eq_false (by decide)
theorem kd_8_e5 : (nI 8 = (5 : Int32)) = False := eq_false (by decide)
theorem kd_8_e7 : (nI 8 = (7 : Int32)) = False := eq_false (by decide)
theorem kd_8_e8 : (nI 8 = (8 : Int32)) = True := eq_true (by decide)
theorem kd_9_l10 : (nI 9 < (10 : Int32)) = True := eq_true (by decide)
theorem kd_9_e0 : (nI 9 = (0 : Int32)) = False := eq_false (by decide)
theorem kd_9_e1 : (nI 9 = (1 : Int32)) = False := eq_false (by decide)
theorem kd_9_e2 : (nI 9 = (2 : Int32)) = False := eq_false (by decide)
theorem kd_9_e3 : (nI 9 = (3 : Int32)) = False := eq_false (by decide)
theorem kd_9_e5 : (nI 9 = (5 : Int32)) = False := eq_false (by decide)
theorem kd_9_e7 : (nI 9 = (7 : Int32)) = False := eq_false (by decide)
theorem kd_9_e8 : (nI 9 = (8 : Int32)) = False := eq_false (by decide)
theorem kd_10_l10 : (nI 10 < (10 : Int32)) = False := eq_false (by decide)
theorem kd_10_e0 : (nI 10 = (0 : Int32)) = False := eq_false (by decide)
theorem kd_10_e1 : (nI 10 = (1 : Int32)) = False := eq_false (by decide)
theorem kd_10_e2 : (nI 10 = (2 : Int32)) = False := eq_false (by decide)
theorem kd_10_e3 : (nI 10 = (3 : Int32)) = False := eq_false (by decide)
theorem kd_10_e5 : (nI 10 = (5 : Int32)) = False := eq_false (by decide)
theorem kd_10_e7 : (nI 10 = (7 : Int32)) = False := eq_false (by decide)
theorem kd_10_e8 : (nI 10 = (8 : Int32)) = False := eq_false (by decide)
theorem kd_11_l10 : (nI 11 < (10 : Int32)) = False := eq_false (by decide)
theorem kd_11_e0 : (nI 11 = (0 : Int32)) = False := eq_false (by decide)
theorem kd_11_e1 : (nI 11 = (1 : Int32)) = False := eq_false (by decide)
theorem kd_11_e2 : (nI 11 = (2 : Int32)) = False := eq_false (by decide)
theorem kd_11_e3 : (nI 11 = (3 : Int32)) = False := eq_false (by decide)
theorem kd_11_e5 : (nI 11 = (5 : Int32)) = False := eq_false (by decide)
theorem kd_11_e7 : (nI 11 = (7 : Int32)) = False := eq_false (by decide)
theorem kd_11_e8 : (nI 11 = (8 : Int32)) = False := eq_false (by decide)
theorem kd_12_l10 : (nI 12 < (10 : Int32)) = False := eq_false (by decide)
theorem kd_12_e0 : (nI 12 = (0 : Int32)) = False := eq_false (by decide)
theorem kd_12_e1 : (nI 12 = (1 : Int32)) = False := eq_false (by decide)
theorem kd_12_e2 : (nI 12 = (2 : Int32)) = False := eq_false (by decide)
theorem kd_12_e3 : (nI 12 = (3 : Int32)) = False := eq_false (by decide)
theorem kd_12_e5 : (nI 12 = (5 : Int32)) = False := eq_false (by decide)
theorem kd_12_e7 : (nI 12 = (7 : Int32)) = False := eq_false (by decide)
theorem kd_12_e8 : (nI 12 = (8 : Int32)) = False := eq_false (by decide)
/-! HOW IT WAITS -/
theorem hR_ended {P : Prg} {es : List Evt} (hs : hsOK P es) {k : Nat} (h1 : 1 ≤ k) (h2 : k ≤ es.length) (h : wkP (hR P es k) = 4) : k = es.length := by
  by_cases c : k < es.length
  · exact absurd h (hs.2.2.2 k h1 c).1
  · omega
theorem gtF_frx {h h1 : Hp} {w p k t b g : Nat} {V : Nat → Int32} (q : gtF h w p k t b g V) (e1 : ∀ f, zI h1 f 616 = zI h f 616) (e2 : ∀ v, v < 8 → zE h1 653 (8 * w + v) = zE h 653 (8 * w + v)) : gtF h1 w p k t b g V := by
  obtain ⟨⟨q1, q2, q3, q4, q5⟩, q6⟩ := q
  exact ⟨⟨by rw [e1]; exact q1, by rw [e1]; exact q2, by rw [e1]; exact q3, by rw [e1]; exact q4, by rw [e1]; exact q5⟩, fun v hv => by rw [e2 v hv]; exact q6 v hv⟩
/-- a value comes into a place of the locals -/
theorem gtF_put {h : Hp} {w p k t b g : Nat} {V : Nat → Int32} (q : gtF h w p k t b g V) {v : Nat} (hv : v < 8) (x : Int32) : gtF (pE h 653 (8 * w + v) x) w p k t b g (upf V v x) := by
  obtain ⟨q1, q6⟩ := q
  refine ⟨q1, fun u hu => ?_⟩
  simp only [zE_pE, true_and]
  unfold upf
  by_cases e : u = v
  · rw [if_pos (by omega), if_pos e]
  · rw [if_neg (by omega), if_neg e]; exact q6 u hu
theorem gtF_took {h : Hp} {w p k t b g : Nat} {V : Nat → Int32} (q : gtF h w p k t b g V) (t1 : Nat) : gtF (pI h 1265 616 (nI t1)) w p k t1 b g V := by
  obtain ⟨⟨q1, q2, q3, q4, q5⟩, q6⟩ := q
  refine ⟨⟨?_, ?_, ?_, ?_, ?_⟩, fun v hv => q6 v hv⟩ <;> simp only [zI_pI, Nat.reduceEqDiff, false_and, and_self, if_false, if_true] <;> assumption
/-- what waiting comes to -/
def wtEnd (P : Prg) (es : List Evt) (w how k : Nat) (W : Wkr) (h h1 : Hp) : Prop :=
  (zE h1 651 w = nI how ∧ hR P es es.length = W ∧ gtF h1 w (wkS W + 1) es.length (wkT W) (wkC W) 0 (wkV W)) ∨
  (zE h1 651 w = 4 ∧ wkP (hR P es es.length) = 4 ∧ zE h1 652 w = wkO (hR P es es.length) ∧ gtF h1 w (wkS W + 1) es.length (wkT W) (wkC W) 0 (wkV W) ∧ wkV (hR P es es.length) = wkV W ∧ wkT (hR P es es.length) = wkT W ∧ wkC (hR P es es.length) = wkC W) ∨
  (∃ k1, k < k1 ∧ k1 ≤ es.length ∧ zE h1 651 w = zE h 651 w ∧ wkP (hA P es k1) = 5 ∧ gtF h1 w (wkS (hA P es k1)) k1 (wkT (hA P es k1)) (wkC (hA P es k1)) (wkN (hA P es k1)) (wkV (hA P es k1)))
theorem w_waits_go {N w v how : Nat} {E : List Nat} {es : List Evt} {P : Prg} {W : Wkr} {child : Int32} (hw : w < 64) (hN : N ≤ 60000) (hs : hsOK P es) (hv : v < 8) (hh : how = 0 ∨ how = 1 ∨ how = 2 ∨ how = 3) (hgo : (stpAt P (wkS W)).2.1 = nI v ∨ how = 1) (hS : wkS W < P.length) (hWp : wkP W = how) (hWa : how = 3 → wkA W = child) (hWt : wkT W ≤ 60) :
    ∀ (m k n : Nat) (h : Hp), RF h → evsAt h N w E es → gtF h w (wkS W + 1) k (wkT W) (wkC W) 0 (wkV W) → k + m = es.length → m < n → 1 ≤ k → hR P es k = W →
      ∃ h1, f_X11_waits_5 n 616 (nI w) (nI how) child (nI v) h = some h1 ∧ frx (wtS w) h h1 ∧ wtEnd P es w how k W h h1
  | m, k, 0, _, _, _, _, _, hn, _, _ => absurd hn (Nat.not_lt_zero _)
  | m, k, n + 1, h, H, ev, gt, hk, hn, hk1, hRk => by
    have nx : (nI w).toNatClampNeg = w := zi_nat (by omega)
    have gx : ¬ nI w < 0 := zi_neg (by omega)
    have lx : ¬ 64 ≤ w := by omega
    have hes := hs.2.1
    obtain ⟨⟨t1, t2, t3, t4, t5⟩, t6⟩ := id gt
    cases m with
    | zero =>
      have c1 : nI es.length ≤ nI k := (zi_le (by omega) (by omega)).mpr (by omega)
      have ek : k = es.length := by omega
      refine ⟨pE h 651 w (nI how), ?_, frx_pE (by unfold wtS; omega), Or.inl ⟨?_, ?_, ?_⟩⟩
      · simp only [f_X11_waits_5, o10, o00, bh, isO, inR, ck_true, bind_some9, Nat.reduceLeDiff, Nat.reduceEqDiff, and_self, and_true, true_and, false_and, and_false, not_false_eq_true, not_true_eq_false, or_self, or_false, false_or, if_true, if_false, reduceIte, RF_o H, RF_1241 H, RO_649 H, RL_649 H, RF_1243 H, RO_651 H, RL_651 H, zR_pE, zT_pE, zL_pE, zn_pE, zE_pE, zI_pE, zR_pI, zT_pI, zL_pI, zn_pI, zE_pI, zI_pI, nx, gx, lx, ev.1, t2, c1]
      · simp only [zE_pE, and_self, if_true]
      · rw [← ek]; exact hRk
      · refine gtF_frx ?_ (fun f => rfl) (fun v hv => by simp only [zE_pE, Nat.reduceEqDiff, false_and, if_false])
        rw [← ek]; exact gt
    | succ m =>
      have c1 : ¬ nI es.length ≤ nI k := zi_le0 (by omega) (by omega) (by omega)
      have hkl : k < es.length := by omega
      obtain ⟨i, rn, rt, hi, hrn, hK, hiE, hrec⟩ := ev.at hkl
      have eE := w_event H hw (by omega) hiE
      have eK := w_kind H (by omega) hrec hK hrn
      have ok := hs.2.2.2 k hk1 hkl
      have nA := hA_next (P := P) hk1 hkl
      rw [hRk] at nA
      have okw := evOK_wait ok (by show wkP (hR P es k) ≠ 5; rw [hRk]; omega)
      have okw : 10 < (evAt es k).1 ∨ (how = 0 ∧ ((evAt es k).1 = 2 ∨ (evAt es k).1 = 3)) ∨ (how = 1 ∧ (evAt es k).1 = 5) ∨ (evAt es k).1 = 7 ∨ (evAt es k).1 = 8 := by
        rw [show wkP (rpR P (es.take k)) = how by show wkP (hR P es k) = how; rw [hRk]; exact hWp] at okw
        exact okw
      have e13 := ok.2.1
      have ni : (nI i).toNatClampNeg = i := zi_nat (by omega)
      have gi : ¬ nI i < 0 := zi_neg (by omega)
      have li : ¬ 60000 ≤ i := by omega
      have n8 : (nI (8 * w + v)).toNatClampNeg = 8 * w + v := zi_nat (by omega)
      have g8 : ¬ nI (8 * w + v) < 0 := zi_neg (by omega)
      have l8 : ¬ 512 ≤ 8 * w + v := by omega
      have rA : zE h 635 i = (evAt es k).2.1 := hrec.2.2.1
      have rB : zE h 636 i = (evAt es k).2.2.1 := hrec.2.2.2.1
      generalize hev : evAt es k = e at *
      have eK : f_X11_kindOf 616 (nI i) h = some (nI e.1, h) := eK
      have f0 : frx (wtS w) h (pI h 1264 616 (nI (k + 1))) := frx_pI (by unfold wtS; omega)
      have gt1 := gtF_seen gt (k + 1)
      have wset : ∀ (U : Wkr) (x : Int32), wkS U = wkS W → (stpAt P (wkS W)).2.1 = nI v → wkSet P U x = (upf (wkV U) v x, wkS U + 1, wkN U + 1, wkP U, wkA U, wkT U, wkC U, wkO U) := fun U x e1 e2 => by
        unfold wkSet
        rw [e1, if_pos hS, e2, zi_nat (by omega)]
      have neutral : wkTake P W e = W → (∀ K9 : Nat → Int32 → Int32 → Int32 → Int32 → Hp → Option Hp, True) → f_X11_waits_5 (n + 1) 616 (nI w) (nI how) child (nI v) h = f_X11_waits_5 n 616 (nI w) (nI how) child (nI v) (pI h 1264 616 (nI (k + 1))) → ∃ h1, f_X11_waits_5 (n + 1) 616 (nI w) (nI how) child (nI v) h = some h1 ∧ frx (wtS w) h h1 ∧ wtEnd P es w how k W h h1 := fun tk _ st => by
        rw [tk] at nA
        have hR1 : hR P es (k + 1) = W := by rw [hR_wait (by rw [nA]; omega)]; exact nA
        obtain ⟨h1, e1, f1, d1⟩ := w_waits_go hw hN hs hv hh hgo hS hWp hWa hWt m (k + 1) n _ (H.on f0) (ev.on f0 (fun a i _ => wtS_rec w a i) (wtS_ev w)) gt1 (by omega) (by omega) (by omega) hR1
        refine ⟨h1, by rw [st]; exact e1, f0.trans f1, ?_⟩
        rcases d1 with d | d | ⟨k1, d1, d2, d3, d4, d5⟩
        · exact Or.inl d
        · exact Or.inr (Or.inl d)
        · exact Or.inr (Or.inr ⟨k1, by omega, d2, d3, d4, d5⟩)
      rcases okw with hK9 | ⟨hh0, hK9⟩ | ⟨hh0, hK9⟩ | hK9 | hK9
      · -- the end
        have hend := w_hasEnded (H.on f0) (w := w) (i := i) (v := e.2.1) hw (by omega) rA
        have tk : wkTake P W e = (wkV W, wkS W, wkN W, 4, wkA W, wkT W, wkC W, e.2.1) := by
          unfold wkTake
          rw [if_neg (by omega), if_neg (by omega), if_neg (by omega), if_neg (by omega), if_neg (by omega), if_neg (by omega), if_neg (by omega), if_neg (by omega)]
        rw [tk] at nA
        have hR1 : hR P es (k + 1) = hA P es (k + 1) := hR_wait (by rw [nA]; show 4 ≠ 5; decide)
        have ek : k + 1 = es.length := hR_ended hs (by omega) (by omega) (by rw [hR1, nA])
        have hRl : hR P es es.length = (wkV W, wkS W, wkN W, 4, wkA W, wkT W, wkC W, e.2.1) := by rw [← ek, hR1, nA]
        have cK : ¬ nI e.1 < (10 : Int32) := fun q => absurd ((zi_lt (b := 10) (by omega) (by omega)).mp q) (by omega)
        refine ⟨pE (pE (pI h 1264 616 (nI (k + 1))) 651 w 4) 652 w e.2.1, ?_, (f0.trans (frx_pE (by unfold wtS; omega))).trans (frx_pE (by unfold wtS; omega)), Or.inr (Or.inl ⟨?_, ?_, ?_, ?_, ?_, ?_, ?_⟩)⟩
        · simp only [f_X11_waits_5, o10, o00, bh, isO, inR, ck_true, bind_some9, Nat.reduceLeDiff, Nat.reduceEqDiff, and_self, and_true, true_and, false_and, and_false, not_false_eq_true, not_true_eq_false, or_self, or_false, false_or, if_true, if_false, reduceIte, RF_o H, RF_1241 H, RO_649 H, RL_649 H, RF_1243 H, RO_651 H, RL_651 H, zR_pE, zT_pE, zL_pE, zn_pE, zE_pE, zI_pE, zR_pI, zT_pI, zL_pI, zn_pI, zE_pI, zI_pI, nx, gx, lx, ev.1, t2, c1, eE, eK, zi_one, cK, hend]
        · simp only [zE_pE, Nat.reduceEqDiff, false_and, and_self, if_false, if_true]
        · rw [hRl]
        · rw [hRl]; simp only [zE_pE, and_self, if_true]
        · refine gtF_frx ?_ (fun f => rfl) (fun v hv => by simp only [zE_pE, Nat.reduceEqDiff, false_and, if_false])
          rw [← ek]; exact gt1
        · rw [hRl]
        · rw [hRl]
        · rw [hRl]
      · -- work's result
        subst hh0
        have gv := hgo.resolve_right (by decide)
        have tk : wkTake P W e = wkResume (wkSet P W e.2.1) := by
          unfold wkTake
          rw [if_neg (by omega), if_neg (by omega), if_neg (by omega), if_neg (by omega), if_pos hK9]
        rw [tk, wset W e.2.1 rfl gv] at nA
        refine ⟨pE (pI h 1264 616 (nI (k + 1))) 653 (8 * w + v) e.2.1, ?_, f0.trans (frx_pE (by unfold wtS; omega)), Or.inr (Or.inr ⟨k + 1, by omega, by omega, ?_, ?_, ?_⟩)⟩
        · rcases hK9 with hK9 | hK9
          · rw [hK9] at eK
            simp only [f_X11_waits_5, f_X11_waits_74, f_X11_waits_90, f_X11_waits_146, o10, o00, bh, isO, inR, ck_true, bind_some9, Nat.reduceLeDiff, Nat.reduceEqDiff, and_self, and_true, true_and, false_and, and_false, not_false_eq_true, not_true_eq_false, or_self, or_false, false_or, if_true, if_false, reduceIte, RF_o H, RF_1227 H, RO_635 H, RL_635 H, RF_1228 H, RO_636 H, RL_636 H, RF_1241 H, RO_649 H, RL_649 H, RF_1243 H, RO_651 H, RL_651 H, RF_1245 H, RO_653 H, RL_653 H, zR_pE, zT_pE, zL_pE, zn_pE, zE_pE, zI_pE, zR_pI, zT_pI, zL_pI, zn_pI, zE_pI, zI_pI, nx, gx, lx, ev.1, t2, c1, eE, eK, zi_one, kd_0_l10, kd_0_e0, kd_0_e1, kd_0_e2, kd_0_e3, kd_0_e5, kd_0_e7, kd_0_e8, kd_2_l10, kd_2_e0, kd_2_e1, kd_2_e2, kd_2_e3, kd_2_e5, kd_2_e7, kd_2_e8, zi_8, n8, g8, l8, ni, gi, li, rA]
          · rw [hK9] at eK
            simp only [f_X11_waits_5, f_X11_waits_74, f_X11_waits_90, f_X11_waits_146, o10, o00, bh, isO, inR, ck_true, bind_some9, Nat.reduceLeDiff, Nat.reduceEqDiff, and_self, and_true, true_and, false_and, and_false, not_false_eq_true, not_true_eq_false, or_self, or_false, false_or, if_true, if_false, reduceIte, RF_o H, RF_1227 H, RO_635 H, RL_635 H, RF_1228 H, RO_636 H, RL_636 H, RF_1241 H, RO_649 H, RL_649 H, RF_1243 H, RO_651 H, RL_651 H, RF_1245 H, RO_653 H, RL_653 H, zR_pE, zT_pE, zL_pE, zn_pE, zE_pE, zI_pE, zR_pI, zT_pI, zL_pI, zn_pI, zE_pI, zI_pI, nx, gx, lx, ev.1, t2, c1, eE, eK, zi_one, kd_0_l10, kd_0_e0, kd_0_e1, kd_0_e2, kd_0_e3, kd_0_e5, kd_0_e7, kd_0_e8, kd_3_l10, kd_3_e0, kd_3_e1, kd_3_e2, kd_3_e3, kd_3_e5, kd_3_e7, kd_3_e8, zi_8, n8, g8, l8, ni, gi, li, rA]
        · simp only [zE_pE, Nat.reduceEqDiff, false_and, if_false]; rfl
        · rw [nA]; rfl
        · rw [nA]
          exact gtF_put gt1 hv e.2.1
      · -- time
        subst hh0
        have tk : wkTake P W e = wkResume (wkLeave W (wkS W + 1)) := by
          unfold wkTake
          rw [if_neg (by omega), if_neg (by omega), if_neg (by omega), if_neg (by omega), if_neg (by omega), if_pos hK9]
        rw [tk] at nA
        refine ⟨pI h 1264 616 (nI (k + 1)), ?_, f0, Or.inr (Or.inr ⟨k + 1, by omega, by omega, rfl, by rw [nA]; rfl, by rw [nA]; exact gt1⟩)⟩
        rw [hK9] at eK
        simp only [f_X11_waits_5, o10, o00, bh, isO, inR, ck_true, bind_some9, Nat.reduceLeDiff, Nat.reduceEqDiff, and_self, and_true, true_and, false_and, and_false, not_false_eq_true, not_true_eq_false, or_self, or_false, false_or, if_true, if_false, reduceIte, RF_o H, RF_1241 H, RO_649 H, RL_649 H, RF_1243 H, RO_651 H, RL_651 H, zR_pE, zT_pE, zL_pE, zn_pE, zE_pE, zI_pE, zR_pI, zT_pI, zL_pI, zn_pI, zE_pI, zI_pI, nx, gx, lx, ev.1, t2, c1, eE, eK, zi_one, kd_1_l10, kd_1_e0, kd_1_e1, kd_1_e2, kd_1_e3, kd_1_e5, kd_1_e7, kd_1_e8, kd_5_l10, kd_5_e0, kd_5_e1, kd_5_e2, kd_5_e3, kd_5_e5, kd_5_e7, kd_5_e8]
      · -- a child's end
        by_cases cm : how = 3 ∧ wkA W = e.2.1
        · obtain ⟨rfl, ca⟩ := cm
          have gv := hgo.resolve_right (by decide)
          have tk : wkTake P W e = wkResume (wkSet P W e.2.2.1) := by
            unfold wkTake
            rw [if_neg (by omega), if_neg (by omega), if_neg (by omega), if_neg (by omega), if_neg (by omega), if_neg (by omega), if_neg (by omega), if_pos hK9, if_pos ⟨hWp, ca⟩]
          rw [tk, wset W e.2.2.1 rfl gv] at nA
          have cc : e.2.1 = child := by rw [← ca]; exact hWa rfl
          refine ⟨pE (pI h 1264 616 (nI (k + 1))) 653 (8 * w + v) e.2.2.1, ?_, f0.trans (frx_pE (by unfold wtS; omega)), Or.inr (Or.inr ⟨k + 1, by omega, by omega, ?_, ?_, ?_⟩)⟩
          · rw [hK9] at eK
            simp only [f_X11_waits_5, f_X11_waits_74, f_X11_waits_90, f_X11_waits_145, f_X11_waits_146, o10, o00, bh, isO, inR, ck_true, bind_some9, Nat.reduceLeDiff, Nat.reduceEqDiff, and_self, and_true, true_and, false_and, and_false, not_false_eq_true, not_true_eq_false, or_self, or_false, false_or, if_true, if_false, reduceIte, RF_o H, RF_1227 H, RO_635 H, RL_635 H, RF_1228 H, RO_636 H, RL_636 H, RF_1241 H, RO_649 H, RL_649 H, RF_1243 H, RO_651 H, RL_651 H, RF_1245 H, RO_653 H, RL_653 H, zR_pE, zT_pE, zL_pE, zn_pE, zE_pE, zI_pE, zR_pI, zT_pI, zL_pI, zn_pI, zE_pI, zI_pI, nx, gx, lx, ev.1, t2, c1, eE, eK, zi_one, kd_3_l10, kd_3_e0, kd_3_e1, kd_3_e2, kd_3_e3, kd_3_e5, kd_3_e7, kd_3_e8, kd_7_l10, kd_7_e0, kd_7_e1, kd_7_e2, kd_7_e3, kd_7_e5, kd_7_e7, kd_7_e8, zi_8, n8, g8, l8, ni, gi, li, rA, rB, cc]
          · simp only [zE_pE, Nat.reduceEqDiff, false_and, if_false]; rfl
          · rw [nA]; rfl
          · rw [nA]
            exact gtF_put gt1 hv e.2.2.1
        · refine neutral ?_ (fun _ => trivial) ?_
          · unfold wkTake
            rw [if_neg (by omega), if_neg (by omega), if_neg (by omega), if_neg (by omega), if_neg (by omega), if_neg (by omega), if_neg (by omega), if_pos hK9, if_neg (by rw [hWp]; exact cm)]
          · rw [hK9] at eK
            rcases hh with rfl | rfl | rfl | rfl
            · simp only [f_X11_waits_5, f_X11_waits_74, f_X11_waits_90, f_X11_waits_145, f_X11_waits_146, o10, o00, bh, isO, inR, ck_true, bind_some9, Nat.reduceLeDiff, Nat.reduceEqDiff, and_self, and_true, true_and, false_and, and_false, not_false_eq_true, not_true_eq_false, or_self, or_false, false_or, if_true, if_false, reduceIte, RF_o H, RF_1227 H, RO_635 H, RL_635 H, RF_1228 H, RO_636 H, RL_636 H, RF_1241 H, RO_649 H, RL_649 H, RF_1243 H, RO_651 H, RL_651 H, RF_1245 H, RO_653 H, RL_653 H, zR_pE, zT_pE, zL_pE, zn_pE, zE_pE, zI_pE, zR_pI, zT_pI, zL_pI, zn_pI, zE_pI, zI_pI, nx, gx, lx, ev.1, t2, c1, eE, eK, zi_one, kd_0_l10, kd_0_e0, kd_0_e1, kd_0_e2, kd_0_e3, kd_0_e5, kd_0_e7, kd_0_e8, kd_7_l10, kd_7_e0, kd_7_e1, kd_7_e2, kd_7_e3, kd_7_e5, kd_7_e7, kd_7_e8]
            · simp only [f_X11_waits_5, f_X11_waits_74, f_X11_waits_90, f_X11_waits_145, f_X11_waits_146, o10, o00, bh, isO, inR, ck_true, bind_some9, Nat.reduceLeDiff, Nat.reduceEqDiff, and_self, and_true, true_and, false_and, and_false, not_false_eq_true, not_true_eq_false, or_self, or_false, false_or, if_true, if_false, reduceIte, RF_o H, RF_1227 H, RO_635 H, RL_635 H, RF_1228 H, RO_636 H, RL_636 H, RF_1241 H, RO_649 H, RL_649 H, RF_1243 H, RO_651 H, RL_651 H, RF_1245 H, RO_653 H, RL_653 H, zR_pE, zT_pE, zL_pE, zn_pE, zE_pE, zI_pE, zR_pI, zT_pI, zL_pI, zn_pI, zE_pI, zI_pI, nx, gx, lx, ev.1, t2, c1, eE, eK, zi_one, kd_1_l10, kd_1_e0, kd_1_e1, kd_1_e2, kd_1_e3, kd_1_e5, kd_1_e7, kd_1_e8, kd_7_l10, kd_7_e0, kd_7_e1, kd_7_e2, kd_7_e3, kd_7_e5, kd_7_e7, kd_7_e8]
            · simp only [f_X11_waits_5, f_X11_waits_74, f_X11_waits_90, f_X11_waits_145, f_X11_waits_146, o10, o00, bh, isO, inR, ck_true, bind_some9, Nat.reduceLeDiff, Nat.reduceEqDiff, and_self, and_true, true_and, false_and, and_false, not_false_eq_true, not_true_eq_false, or_self, or_false, false_or, if_true, if_false, reduceIte, RF_o H, RF_1227 H, RO_635 H, RL_635 H, RF_1228 H, RO_636 H, RL_636 H, RF_1241 H, RO_649 H, RL_649 H, RF_1243 H, RO_651 H, RL_651 H, RF_1245 H, RO_653 H, RL_653 H, zR_pE, zT_pE, zL_pE, zn_pE, zE_pE, zI_pE, zR_pI, zT_pI, zL_pI, zn_pI, zE_pI, zI_pI, nx, gx, lx, ev.1, t2, c1, eE, eK, zi_one, kd_2_l10, kd_2_e0, kd_2_e1, kd_2_e2, kd_2_e3, kd_2_e5, kd_2_e7, kd_2_e8, kd_7_l10, kd_7_e0, kd_7_e1, kd_7_e2, kd_7_e3, kd_7_e5, kd_7_e7, kd_7_e8]
            · have cc : ¬ e.2.1 = child := fun q => cm ⟨rfl, by rw [hWa rfl, q]⟩
              simp only [f_X11_waits_5, f_X11_waits_74, f_X11_waits_90, f_X11_waits_145, f_X11_waits_146, o10, o00, bh, isO, inR, ck_true, bind_some9, Nat.reduceLeDiff, Nat.reduceEqDiff, and_self, and_true, true_and, false_and, and_false, not_false_eq_true, not_true_eq_false, or_self, or_false, false_or, if_true, if_false, reduceIte, RF_o H, RF_1227 H, RO_635 H, RL_635 H, RF_1228 H, RO_636 H, RL_636 H, RF_1241 H, RO_649 H, RL_649 H, RF_1243 H, RO_651 H, RL_651 H, RF_1245 H, RO_653 H, RL_653 H, zR_pE, zT_pE, zL_pE, zn_pE, zE_pE, zI_pE, zR_pI, zT_pI, zL_pI, zn_pI, zE_pI, zI_pI, nx, gx, lx, ev.1, t2, c1, eE, eK, zi_one, kd_3_l10, kd_3_e0, kd_3_e1, kd_3_e2, kd_3_e3, kd_3_e5, kd_3_e7, kd_3_e8, kd_7_l10, kd_7_e0, kd_7_e1, kd_7_e2, kd_7_e3, kd_7_e5, kd_7_e7, kd_7_e8, ni, gi, li, rA, cc]
      · -- a signal
        by_cases cm : how = 2
        · subst cm
          have gv := hgo.resolve_right (by decide)
          have tk : wkTake P W e = wkResume (wkSet P (wkTook W) e.2.1) := by
            unfold wkTake
            rw [if_neg (by omega), if_neg (by omega), if_neg (by omega), if_neg (by omega), if_neg (by omega), if_neg (by omega), if_pos hK9, if_pos hWp]
          rw [tk, wset (wkTook W) e.2.1 rfl gv] at nA
          refine ⟨pI (pE (pI h 1264 616 (nI (k + 1))) 653 (8 * w + v) e.2.1) 1265 616 (nI (wkT W + 1)), ?_, (f0.trans (frx_pE (by unfold wtS; omega))).trans (frx_pI (by unfold wtS; omega)), Or.inr (Or.inr ⟨k + 1, by omega, by omega, ?_, ?_, ?_⟩)⟩
          · rw [hK9] at eK
            simp only [f_X11_waits_5, f_X11_waits_74, f_X11_waits_90, f_X11_waits_145, f_X11_waits_146, o10, o00, bh, isO, inR, ck_true, bind_some9, Nat.reduceLeDiff, Nat.reduceEqDiff, and_self, and_true, true_and, false_and, and_false, not_false_eq_true, not_true_eq_false, or_self, or_false, false_or, if_true, if_false, reduceIte, RF_o H, RF_1227 H, RO_635 H, RL_635 H, RF_1228 H, RO_636 H, RL_636 H, RF_1241 H, RO_649 H, RL_649 H, RF_1243 H, RO_651 H, RL_651 H, RF_1245 H, RO_653 H, RL_653 H, zR_pE, zT_pE, zL_pE, zn_pE, zE_pE, zI_pE, zR_pI, zT_pI, zL_pI, zn_pI, zE_pI, zI_pI, nx, gx, lx, ev.1, t2, c1, eE, eK, zi_one, kd_2_l10, kd_2_e0, kd_2_e1, kd_2_e2, kd_2_e3, kd_2_e5, kd_2_e7, kd_2_e8, kd_8_l10, kd_8_e0, kd_8_e1, kd_8_e2, kd_8_e3, kd_8_e5, kd_8_e7, kd_8_e8, zi_8, n8, g8, l8, ni, gi, li, rA, t3]
          · simp only [zE_pI, zE_pE, Nat.reduceEqDiff, false_and, if_false]
          · rw [nA]; rfl
          · rw [nA]
            exact gtF_took (gtF_put gt1 hv e.2.1) (wkT W + 1)
        · refine neutral ?_ (fun _ => trivial) ?_
          · unfold wkTake
            rw [if_neg (by omega), if_neg (by omega), if_neg (by omega), if_neg (by omega), if_neg (by omega), if_neg (by omega), if_pos hK9, if_neg (by rw [hWp]; exact cm)]
          · rw [hK9] at eK
            rcases hh with rfl | rfl | rfl | rfl
            · simp only [f_X11_waits_5, f_X11_waits_74, f_X11_waits_90, f_X11_waits_145, f_X11_waits_146, o10, o00, bh, isO, inR, ck_true, bind_some9, Nat.reduceLeDiff, Nat.reduceEqDiff, and_self, and_true, true_and, false_and, and_false, not_false_eq_true, not_true_eq_false, or_self, or_false, false_or, if_true, if_false, reduceIte, RF_o H, RF_1227 H, RO_635 H, RL_635 H, RF_1228 H, RO_636 H, RL_636 H, RF_1241 H, RO_649 H, RL_649 H, RF_1243 H, RO_651 H, RL_651 H, RF_1245 H, RO_653 H, RL_653 H, zR_pE, zT_pE, zL_pE, zn_pE, zE_pE, zI_pE, zR_pI, zT_pI, zL_pI, zn_pI, zE_pI, zI_pI, nx, gx, lx, ev.1, t2, c1, eE, eK, zi_one, kd_0_l10, kd_0_e0, kd_0_e1, kd_0_e2, kd_0_e3, kd_0_e5, kd_0_e7, kd_0_e8, kd_8_l10, kd_8_e0, kd_8_e1, kd_8_e2, kd_8_e3, kd_8_e5, kd_8_e7, kd_8_e8]
            · simp only [f_X11_waits_5, f_X11_waits_74, f_X11_waits_90, f_X11_waits_145, f_X11_waits_146, o10, o00, bh, isO, inR, ck_true, bind_some9, Nat.reduceLeDiff, Nat.reduceEqDiff, and_self, and_true, true_and, false_and, and_false, not_false_eq_true, not_true_eq_false, or_self, or_false, false_or, if_true, if_false, reduceIte, RF_o H, RF_1227 H, RO_635 H, RL_635 H, RF_1228 H, RO_636 H, RL_636 H, RF_1241 H, RO_649 H, RL_649 H, RF_1243 H, RO_651 H, RL_651 H, RF_1245 H, RO_653 H, RL_653 H, zR_pE, zT_pE, zL_pE, zn_pE, zE_pE, zI_pE, zR_pI, zT_pI, zL_pI, zn_pI, zE_pI, zI_pI, nx, gx, lx, ev.1, t2, c1, eE, eK, zi_one, kd_1_l10, kd_1_e0, kd_1_e1, kd_1_e2, kd_1_e3, kd_1_e5, kd_1_e7, kd_1_e8, kd_8_l10, kd_8_e0, kd_8_e1, kd_8_e2, kd_8_e3, kd_8_e5, kd_8_e7, kd_8_e8]
            · exact absurd rfl cm
            · simp only [f_X11_waits_5, f_X11_waits_74, f_X11_waits_90, f_X11_waits_145, f_X11_waits_146, o10, o00, bh, isO, inR, ck_true, bind_some9, Nat.reduceLeDiff, Nat.reduceEqDiff, and_self, and_true, true_and, false_and, and_false, not_false_eq_true, not_true_eq_false, or_self, or_false, false_or, if_true, if_false, reduceIte, RF_o H, RF_1227 H, RO_635 H, RL_635 H, RF_1228 H, RO_636 H, RL_636 H, RF_1241 H, RO_649 H, RL_649 H, RF_1243 H, RO_651 H, RL_651 H, RF_1245 H, RO_653 H, RL_653 H, zR_pE, zT_pE, zL_pE, zn_pE, zE_pE, zI_pE, zR_pI, zT_pI, zL_pI, zn_pI, zE_pI, zI_pI, nx, gx, lx, ev.1, t2, c1, eE, eK, zi_one, kd_3_l10, kd_3_e0, kd_3_e1, kd_3_e2, kd_3_e3, kd_3_e5, kd_3_e7, kd_3_e8, kd_8_l10, kd_8_e0, kd_8_e1, kd_8_e2, kd_8_e3, kd_8_e5, kd_8_e7, kd_8_e8]
theorem gtF_went {h : Hp} {w p k t b g : Nat} {V : Nat → Int32} (q : gtF h w p k t b g V) (g1 : Nat) : gtF (pI h 1267 616 (nI g1)) w p k t b g1 V := by
  obtain ⟨⟨q1, q2, q3, q4, q5⟩, q6⟩ := q
  refine ⟨⟨?_, ?_, ?_, ?_, ?_⟩, fun v hv => q6 v hv⟩ <;> simp only [zI_pI, Nat.reduceEqDiff, false_and, and_self, if_false, if_true] <;> assumption
theorem w_waits {h : Hp} (H : RF h) {N w v how k g : Nat} {E : List Nat} {es : List Evt} {P : Prg} {W : Wkr} {child : Int32} (hw : w < 64) (hN : N ≤ 60000) (hs : hsOK P es) (hv : v < 8) (hh : how = 0 ∨ how = 1 ∨ how = 2 ∨ how = 3) (hgo : (stpAt P (wkS W)).2.1 = nI v ∨ how = 1) (hS : wkS W < P.length) (hWp : wkP W = how) (hWa : how = 3 → wkA W = child) (hWt : wkT W ≤ 60)
    (ev : evsAt h N w E es) (gt : gtF h w (wkS W + 1) k (wkT W) (wkC W) g (wkV W)) (hk1 : 1 ≤ k) (hk : k ≤ es.length) (hRk : hR P es k = W) :
    ∃ h1, f_X11_waits 616 (nI w) (nI how) child (nI v) h = some h1 ∧ frx (wtS w) h h1 ∧ wtEnd P es w how k W h h1 := by
  have f0 : frx (wtS w) h (pI h 1267 616 (nI 0)) := frx_pI (by unfold wtS; omega)
  have hes := hs.2.1
  obtain ⟨h1, e1, f1, d1⟩ := w_waits_go hw hN hs hv hh hgo hS hWp hWa hWt (es.length - k) k fz _ (H.on f0) (ev.on f0 (fun a i _ => wtS_rec w a i) (wtS_ev w)) (gtF_went gt 0) (by omega) (fz_big (by omega)) hk1 hRk
  refine ⟨h1, ?_, f0.trans f1, d1⟩
  simp only [f_X11_waits, o10, o00, bh, isO, inR, ck_true, bind_some9, Nat.reduceLeDiff, Nat.reduceEqDiff, and_self, and_true, true_and, false_and, and_false, not_false_eq_true, not_true_eq_false, or_self, or_false, false_or, if_true, if_false, reduceIte, RF_o H, zR_pE, zT_pE, zL_pE, zn_pE, zE_pE, zI_pE, zR_pI, zT_pI, zL_pI, zn_pI, zE_pI, zI_pI]
  exact e1
theorem take_drop_cons {es : List Evt} {j k : Nat} (h1 : j < k) (h2 : k ≤ es.length) : (es.take k).drop j = evAt es j :: (es.take k).drop (j + 1) := by
  rw [List.drop_eq_getElem_cons (by rw [List.length_take]; omega), List.getElem_take]
  congr 1
  unfold evAt
  rw [List.getD_eq_getElem?_getD, List.getElem?_eq_getElem (by omega)]
  rfl
theorem w_endOf_go {h : Hp} (H : RF h) {N w k : Nat} {E : List Nat} {es : List Evt} {c : Int32} (hw : w < 64) (hN : N ≤ 60000) (ev : evsAt h N w E es) (hk : k ≤ es.length) :
    ∀ (m j n : Nat), j + m = k → m < n → f_X11_endOf_3 n 616 (nI w) c (nI k) (nI j) h = some (match endOf c ((es.take k).drop j) with
      | none => -1
      | some d => zE h 648 (60 * w + (j + d)), h)
  | m, j, 0, _, hn => absurd hn (Nat.not_lt_zero _)
  | m, j, n + 1, hj, hn => by
    have hes := ev.2.1.2
    cases m with
    | zero =>
      have c1 : nI k ≤ nI j := (zi_le (by omega) (by omega)).mpr (by omega)
      have : (es.take k).drop j = [] := List.drop_eq_nil_of_le (by rw [List.length_take]; omega)
      rw [this]
      simp only [f_X11_endOf_3, c1, if_true]
      rfl
    | succ m =>
      have c1 : ¬ nI k ≤ nI j := zi_le0 (by omega) (by omega) (by omega)
      have hjl : j < es.length := by omega
      obtain ⟨i, rn, rt, hi, hrn, hK, hiE, hrec⟩ := ev.at hjl
      have eE := w_event H hw (by omega) hiE
      have eK : f_X11_kindOf 616 (nI i) h = some (nI (evAt es j).1, h) := w_kind H (by omega) hrec hK hrn
      have rA : zE h 635 i = (evAt es j).2.1 := hrec.2.2.1
      have ni : (nI i).toNatClampNeg = i := zi_nat (by omega)
      have gi : ¬ nI i < 0 := zi_neg (by omega)
      have li : ¬ 60000 ≤ i := by omega
      have ih := w_endOf_go (c := c) H hw hN ev hk m (j + 1) n (by omega) (by omega)
      rw [take_drop_cons (by omega) hk]
      have k7 : nI (evAt es j).1 = (7 : Int32) ↔ (evAt es j).1 = 7 := zi_eq (b := 7) (by omega) (by omega)
      unfold endOf
      by_cases c7 : (evAt es j).1 = 7
      · by_cases ca : (evAt es j).2.1 = c
        · rw [if_pos ⟨c7, ca⟩]
          simp only [f_X11_endOf_3, o10, o00, bh, isO, inR, ck_true, bind_some9, Nat.reduceLeDiff, Nat.reduceEqDiff, and_self, and_true, true_and, false_and, and_false, not_false_eq_true, not_true_eq_false, or_self, or_false, false_or, if_true, if_false, reduceIte, RF_o H, RF_1227 H, RO_635 H, RL_635 H, zR_pE, zT_pE, zL_pE, zn_pE, zE_pE, zI_pE, zR_pI, zT_pI, zL_pI, zn_pI, zE_pI, zI_pI, RF_1227 H, RO_635 H, RL_635 H, c1, eE, eK, k7, c7, kd_7_e7, ni, gi, li, rA, ca]
          rw [Nat.add_zero, hiE]
        · rw [if_neg (fun q => ca q.2)]
          simp only [f_X11_endOf_3, f_X11_endOf_49, o10, o00, bh, isO, inR, ck_true, bind_some9, Nat.reduceLeDiff, Nat.reduceEqDiff, and_self, and_true, true_and, false_and, and_false, not_false_eq_true, not_true_eq_false, or_self, or_false, false_or, if_true, if_false, reduceIte, RF_o H, RF_1227 H, RO_635 H, RL_635 H, zR_pE, zT_pE, zL_pE, zn_pE, zE_pE, zI_pE, zR_pI, zT_pI, zL_pI, zn_pI, zE_pI, zI_pI, RF_1227 H, RO_635 H, RL_635 H, c1, eE, eK, k7, c7, kd_7_e7, ni, gi, li, rA, ca, zi_one, ih]
          cases endOf c ((es.take k).drop (j + 1)) with
          | none => rfl
          | some d => show some (zE h 648 (60 * w + (j + 1 + d)), h) = some (zE h 648 (60 * w + (j + (d + 1))), h); rw [show j + 1 + d = j + (d + 1) by omega]
      · rw [if_neg (fun q => c7 q.1)]
        simp only [f_X11_endOf_3, f_X11_endOf_49, o10, o00, bh, isO, inR, ck_true, bind_some9, Nat.reduceLeDiff, Nat.reduceEqDiff, and_self, and_true, true_and, false_and, and_false, not_false_eq_true, not_true_eq_false, or_self, or_false, false_or, if_true, if_false, reduceIte, RF_o H, RF_1227 H, RO_635 H, RL_635 H, zR_pE, zT_pE, zL_pE, zn_pE, zE_pE, zI_pE, zR_pI, zT_pI, zL_pI, zn_pI, zE_pI, zI_pI, c1, eE, eK, k7, c7, zi_one, ih]
        cases endOf c ((es.take k).drop (j + 1)) with
        | none => rfl
        | some d => show some (zE h 648 (60 * w + (j + 1 + d)), h) = some (zE h 648 (60 * w + (j + (d + 1))), h); rw [show j + 1 + d = j + (d + 1) by omega]
theorem w_endOf {h : Hp} (H : RF h) {N w k : Nat} {E : List Nat} {es : List Evt} {c : Int32} (hw : w < 64) (hN : N ≤ 60000) (ev : evsAt h N w E es) (hk : k ≤ es.length) :
    f_X11_endOf 616 (nI w) c (nI k) h = some (match endOf c (es.take k) with
      | none => -1
      | some d => zE h 648 (60 * w + d), h) := by
  have hes := ev.2.1.2
  have := w_endOf_go (c := c) H hw hN ev hk k 0 fz (by omega) (fz_big (by omega))
  unfold f_X11_endOf
  rw [zi_zero, this, List.drop_zero]
  cases endOf c (es.take k) with
  | none => rfl
  | some d => show some (zE h 648 (60 * w + (0 + d)), h) = _; rw [Nat.zero_add]
theorem endOf_lt {c : Int32} : ∀ {es : List Evt} {d : Nat}, endOf c es = some d → d < es.length ∧ (evAt es d).1 = 7 ∧ (evAt es d).2.1 = c
  | [], d, h => by cases h
  | e :: r, d, h => by
    unfold endOf at h
    split at h
    · next q => cases h; exact ⟨Nat.zero_lt_succ _, q.1, q.2⟩
    · cases hz : endOf c r with
      | none => rw [hz] at h; cases h
      | some x =>
        rw [hz] at h
        cases h
        have := endOf_lt hz
        exact ⟨Nat.succ_lt_succ this.1, this.2.1, this.2.2⟩
theorem evAt_take {es : List Evt} {j k : Nat} (h : j < k) : evAt (es.take k) j = evAt es j := by
  unfold evAt; rw [List.getD_eq_getElem?_getD, List.getD_eq_getElem?_getD, List.getElem?_take_of_lt h]
/-- a W: takes a signal that is there, or waits -/
theorem w_takes_go {N w v k : Nat} {E : List Nat} {es : List Evt} {W : Wkr} (hw : w < 64) (hN : N ≤ 60000) (hv : v < 8) (hk : k ≤ es.length) {h : Hp} (H : RF h) (ev : evsAt h N w E es) {p b g : Nat} (gt : gtF h w p k (wkT W) b g (wkV W)) (hT : wkT W ≤ 60) :
    ∀ (m j c n : Nat), j + m = k → m < n → c ≤ wkT W → c ≤ j → f_X11_takesSignal_5 n 616 (nI w) (nI v) (nI c) (nI j) h = (match plcOf 8 ((es.take k).drop j) (wkT W - c) with
      | none => (f_X11_waits 616 (nI w) 2 0 (nI v) h).bind (fun q => some q)
      | some d => some (pI (pE h 653 (8 * w + v) (evAt es (j + d)).2.1) 1265 616 (nI (wkT W + 1))))
  | m, j, c, 0, _, hn, _, _ => absurd hn (Nat.not_lt_zero _)
  | m, j, c, n + 1, hj, hn, hc, hcj => by
    have hes := ev.2.1.2
    obtain ⟨⟨t1, t2, t3, t4, t5⟩, t6⟩ := id gt
    cases m with
    | zero =>
      have c1 : nI k ≤ nI j := (zi_le (by omega) (by omega)).mpr (by omega)
      have : (es.take k).drop j = [] := List.drop_eq_nil_of_le (by rw [List.length_take]; omega)
      rw [this]
      simp only [f_X11_takesSignal_5, o10, o00, bh, isO, inR, ck_true, bind_some9, Nat.reduceLeDiff, Nat.reduceEqDiff, and_self, and_true, true_and, false_and, and_false, not_false_eq_true, not_true_eq_false, or_self, or_false, false_or, if_true, if_false, reduceIte, RF_o H, RF_1227 H, RO_635 H, RL_635 H, RF_1245 H, RO_653 H, RL_653 H, zR_pE, zT_pE, zL_pE, zn_pE, zE_pE, zI_pE, zR_pI, zT_pI, zL_pI, zn_pI, zE_pI, zI_pI, t2, c1]
      rfl
    | succ m =>
      have c1 : ¬ nI k ≤ nI j := zi_le0 (by omega) (by omega) (by omega)
      have hjl : j < es.length := by omega
      obtain ⟨i, rn, rt, hi, hrn, hK, hiE, hrec⟩ := ev.at hjl
      have eE := w_event H hw (by omega) hiE
      have eK : f_X11_kindOf 616 (nI i) h = some (nI (evAt es j).1, h) := w_kind H (by omega) hrec hK hrn
      have rA : zE h 635 i = (evAt es j).2.1 := hrec.2.2.1
      have ni : (nI i).toNatClampNeg = i := zi_nat (by omega)
      have gi : ¬ nI i < 0 := zi_neg (by omega)
      have li : ¬ 60000 ≤ i := by omega
      have n8 : (nI (8 * w + v)).toNatClampNeg = 8 * w + v := zi_nat (by omega)
      have g8 : ¬ nI (8 * w + v) < 0 := zi_neg (by omega)
      have l8 : ¬ 512 ≤ 8 * w + v := by omega
      rw [take_drop_cons (by omega) hk]
      have k8 : nI (evAt es j).1 = (8 : Int32) ↔ (evAt es j).1 = 8 := zi_eq (b := 8) (by omega) (by omega)
      have kc : nI c = nI (wkT W) ↔ c = wkT W := zi_eq (by omega) (by omega)
      unfold plcOf
      by_cases c8 : (evAt es j).1 = 8
      · rw [if_pos c8]
        by_cases ca : c = wkT W
        · have e0 : wkT W - c = 0 := by omega
          rw [e0]
          simp only [f_X11_takesSignal_5, o10, o00, bh, isO, inR, ck_true, bind_some9, Nat.reduceLeDiff, Nat.reduceEqDiff, and_self, and_true, true_and, false_and, and_false, not_false_eq_true, not_true_eq_false, or_self, or_false, false_or, if_true, if_false, reduceIte, RF_o H, RF_1227 H, RO_635 H, RL_635 H, RF_1245 H, RO_653 H, RL_653 H, zR_pE, zT_pE, zL_pE, zn_pE, zE_pE, zI_pE, zR_pI, zT_pI, zL_pI, zn_pI, zE_pI, zI_pI, RF_1227 H, RO_635 H, RL_635 H, RF_1245 H, RO_653 H, RL_653 H, t2, c1, eE, eK, k8, c8, kd_8_e8, t3, kc, ca, ni, gi, li, rA, zi_8, n8, g8, l8, zi_one]
          rfl
        · obtain ⟨d, hd⟩ : ∃ d, wkT W - c = d + 1 := ⟨wkT W - c - 1, by omega⟩
          have ih := w_takes_go hw hN hv hk H ev gt hT m (j + 1) (c + 1) n (by omega) (by omega) (by omega) (by omega)
          rw [show wkT W - (c + 1) = d by omega] at ih
          rw [hd]
          simp only [f_X11_takesSignal_5, f_X11_takesSignal_78, o10, o00, bh, isO, inR, ck_true, bind_some9, Nat.reduceLeDiff, Nat.reduceEqDiff, and_self, and_true, true_and, false_and, and_false, not_false_eq_true, not_true_eq_false, or_self, or_false, false_or, if_true, if_false, reduceIte, RF_o H, RF_1227 H, RO_635 H, RL_635 H, RF_1245 H, RO_653 H, RL_653 H, zR_pE, zT_pE, zL_pE, zn_pE, zE_pE, zI_pE, zR_pI, zT_pI, zL_pI, zn_pI, zE_pI, zI_pI, t2, c1, eE, eK, k8, c8, kd_8_e8, t3, kc, ca, zi_one, ih]
          cases plcOf 8 ((es.take k).drop (j + 1)) d with
          | none => rfl
          | some x => show some (pI (pE h 653 (8 * w + v) (evAt es (j + 1 + x)).2.1) 1265 616 _) = some (pI (pE h 653 (8 * w + v) (evAt es (j + (x + 1))).2.1) 1265 616 _); rw [show j + 1 + x = j + (x + 1) by omega]
      · rw [if_neg c8]
        have ih := w_takes_go hw hN hv hk H ev gt hT m (j + 1) c n (by omega) (by omega) (by omega) (by omega)
        simp only [f_X11_takesSignal_5, f_X11_takesSignal_78, o10, o00, bh, isO, inR, ck_true, bind_some9, Nat.reduceLeDiff, Nat.reduceEqDiff, and_self, and_true, true_and, false_and, and_false, not_false_eq_true, not_true_eq_false, or_self, or_false, false_or, if_true, if_false, reduceIte, RF_o H, RF_1227 H, RO_635 H, RL_635 H, RF_1245 H, RO_653 H, RL_653 H, zR_pE, zT_pE, zL_pE, zn_pE, zE_pE, zI_pE, zR_pI, zT_pI, zL_pI, zn_pI, zE_pI, zI_pI, t2, c1, eE, eK, k8, c8, zi_one, ih]
        cases plcOf 8 ((es.take k).drop (j + 1)) (wkT W - c) with
        | none => rfl
        | some x => show some (pI (pE h 653 (8 * w + v) (evAt es (j + 1 + x)).2.1) 1265 616 _) = some (pI (pE h 653 (8 * w + v) (evAt es (j + (x + 1))).2.1) 1265 616 _); rw [show j + 1 + x = j + (x + 1) by omega]
