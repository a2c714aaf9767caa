/-! MESSAGES ARE SENT, IN THE CLASS -/
section Calls
variable {vs : Nat → List Prg} {now : Int32} {K : Nat} {h : Hp} {own : Nat → Nat} {u : Nat → Nat → Nat} {v : Nat → Nat} {W : Wld}
theorem c_originOf (s n k : Nat) (g : Hp) : f_X10_originOf (nI (s + 4 * n)) (nI k) g = some (orgOf s n k, g) := by
  unfold f_X10_originOf orgOf
  rw [show (64 : Int32) = nI 64 from rfl, zi_mul, zi_add]
/-- a signal comes to a row -/
theorem c_sig61 (hv : vsOK vs) (hK : K ≤ 2000) (S : WdS vs K W) (R : CW vs now h own u v W) {s n k t m : Nat} (hs : s < 4) (hn : n < shN (W s)) (hk : k < (flE (shF (W s) n)).length) (ht : t < 4) (hl : shL (W t) ≠ -1) (hm : m < shN (W t)) : aCB vs now h own u v (wdSig vs now W t m (evAt (flE (shF (W s) n)) k).2.2.1 (orgOf s n k)) (f_X10_sendSignal_61 (wfA t m) (wfA s n) (nI k) (shA t) h) := by
  have cx := R.1
  obtain ⟨C, hS, hY⟩ := S t ht
  have kt := R.2.2 t ht
  have ks := R.2.2 s hs
  have hNt := kt.2.2.2.2.1.1
  have hNs := ks.2.2.2.2.1.1
  have wf : wfC h (wfA s n) (s + 4 * n) (shF (W s) n) := ks.2.2.2.1 _ (by omega)
  have wm : wfC h (wfA t m) (t + 4 * m) (shF (W t) m) := kt.2.2.2.1 _ (by omega)
  obtain ⟨⟨oW, e1000, -, r1002, -⟩, -, ⟨oH, -, -, r202, -⟩, ⟨-, -, o5, -⟩, ⟨-, -, l5, -⟩, -⟩ := id wf.1
  obtain ⟨⟨oM, -, -, m1002, -⟩, -, ⟨oMH, -⟩, -⟩ := id wm.1
  have h60 := wf.2.1.1.2
  have eb : zE h (wfA s n + 5) k = (evAt (flE (shF (W s) n)) k).2.2.1 := (wf.2.1.2 k _ (ev_get hk)).2.2.1
  have nk : (nI k).toNatClampNeg = k := zi_nat (by omega)
  have gk : ¬ nI k < 0 := zi_neg (by omega)
  have lk : ¬ 60 ≤ k := by omega
  have eo := c_originOf s n k h
  have ne := wfA_ne t m
  have wP := wm.2.2.1.2.2.2.1
  obtain ⟨-, -, -, ko, G, -⟩ := row_ok hv hS.1 hm
  have hP : wkP (flW (shF (W t) m)) ≤ 5 := G.2.2.2.2.1
  obtain ⟨-, -, -, -, l9⟩ := hS.1.len hm
  have eg := c_hasSig wm.1 wm.2.1 ko (orgOf s n k)
  have oA := kt.1.1.1
  unfold wdSig
  by_cases c4 : wkP (flW (shF (W t) m)) = 4
  · rw [if_pos (Or.inl c4)]
    have d4 : (nI (wkP (flW (shF (W t) m))) = 4) = True := eq_true (by rw [c4]; rfl)
    simp only [f_X10_sendSignal_61, o10, o00, bh, isO, inR, ck_true, bind_some9, Nat.reduceLeDiff, Nat.reduceEqDiff, and_self, and_true, true_and, false_and, and_false, not_false_eq_true, not_true_eq_false, or_self, or_false, false_or, if_true, if_false, reduceIte, zR_pE, zT_pE, zL_pE, zn_pE, zE_pE, zI_pE, zQ_pE, zJ_pE, zR_pI, zT_pI, zL_pI, zn_pI, zE_pI, zI_pI, zQ_pI, zJ_pI, zR_pR, zT_pR, zL_pR, zn_pR, zE_pR, zI_pR, zQ_pR, zJ_pR, zR_pJ, zT_pJ, zL_pJ, zn_pJ, zE_pJ, zI_pJ, zQ_pJ, zJ_pJ, oW, e1000, eo, ne, oM, wP, d4]
    exact aCB.id R true
  · have d4 : (nI (wkP (flW (shF (W t) m))) = 4) = False := eq_false (fun z => c4 ((zi_eq (b := 4) (by omega) (by omega)).mp z))
    by_cases cg : hasSig (flE (shF (W t) m)) (orgOf s n k) = true
    · rw [if_pos (Or.inr cg)]
      rw [if_pos cg] at eg
      simp only [f_X10_sendSignal_61, o10, o00, bh, isO, inR, ck_true, bind_some9, Nat.reduceLeDiff, Nat.reduceEqDiff, and_self, and_true, true_and, false_and, and_false, not_false_eq_true, not_true_eq_false, or_self, or_false, false_or, if_true, if_false, reduceIte, zR_pE, zT_pE, zL_pE, zn_pE, zE_pE, zI_pE, zQ_pE, zJ_pE, zR_pI, zT_pI, zL_pI, zn_pI, zE_pI, zI_pI, zQ_pI, zJ_pI, zR_pR, zT_pR, zL_pR, zn_pR, zE_pR, zI_pR, zQ_pR, zJ_pR, zR_pJ, zT_pJ, zL_pJ, zn_pJ, zE_pJ, zI_pJ, zQ_pJ, zJ_pJ, oW, e1000, eo, ne, oM, wP, d4, m1002, oMH, eg, show ((1 : Int32) = 0) = False from eq_false (by decide)]
      exact aCB.id R true
    · rw [if_neg (fun z => z.elim c4 cg)]
      rw [if_neg cg] at eg
      have c5 : wkP (flW (shF (W t) m)) ≠ 5 := hS.2.1 hl m hm
      obtain ⟨h1, x1, d⟩ := c_bringS hv ht hK cx kt hS.1 hY hl hm (kd := 8) (a := (evAt (flE (shF (W s) n)) k).2.2.1) (b := 0) (o := orgOf s n k) (signal_ok (by rw [← l9]; exact c4) (by rw [← l9]; exact c5))
      obtain ⟨oA1, h2, own2, u2, v2, x2, R2, A2⟩ := R.don ht d
      refine ⟨h2, own2, u2, v2, ?_, R2, A2⟩
      have ib := isB_if (shBring now (W t) m 8 (evAt (flE (shF (W s) n)) k).2.2.1 0 (orgOf s n k)).1
      dsimp only
      generalize (if (shBring now (W t) m 8 (evAt (flE (shF (W s) n)) k).2.2.1 0 (orgOf s n k)).1 = true then (1 : Int32) else 0) = r9 at *
      have x1 : f_X6_bring (shA t) (wfA t m) 8 (evAt (flE (shF (W s) n)) k).2.2.1 0 (orgOf s n k) h = some (r9, h1) := x1
      simp only [f_X10_sendSignal_61, o10, o00, bh, isO, inR, ck_true, bind_some9, Nat.reduceLeDiff, Nat.reduceEqDiff, and_self, and_true, true_and, false_and, and_false, not_false_eq_true, not_true_eq_false, or_self, or_false, false_or, if_true, if_false, reduceIte, zR_pE, zT_pE, zL_pE, zn_pE, zE_pE, zI_pE, zQ_pE, zJ_pE, zR_pI, zT_pI, zL_pI, zn_pI, zE_pI, zI_pI, zQ_pI, zJ_pI, zR_pR, zT_pR, zL_pR, zn_pR, zE_pR, zI_pR, zQ_pR, zJ_pR, zR_pJ, zT_pJ, zL_pJ, zn_pJ, zE_pJ, zI_pJ, zQ_pJ, zJ_pJ, oW, e1000, eo, ne, oM, wP, d4, m1002, oMH, eg, r1002, oH, r202, o5, l5, nk, gk, lk, eb, oA, x1, oA1, x2, ib]
theorem c_sig61n (R : CW vs now h own u v W) {s n k t : Nat} (hs : s < 4) (hn : n < 16) : f_X10_sendSignal_61 0 (wfA s n) (nI k) (shA t) h = some (1, h) := by
  have wf : wfC h (wfA s n) (s + 4 * n) (shF (W s) n) := (R.2.2 s hs).2.2.2.1 _ hn
  have oW := wf.1.1.1
  have e1000 := wf.1.1.2.1
  have eo := c_originOf s n k h
  simp only [f_X10_sendSignal_61, o10, o00, bh, isO, inR, ck_true, bind_some9, Nat.reduceLeDiff, Nat.reduceEqDiff, and_self, and_true, true_and, false_and, and_false, not_false_eq_true, not_true_eq_false, or_self, or_false, false_or, if_true, if_false, reduceIte, zR_pE, zT_pE, zL_pE, zn_pE, zE_pE, zI_pE, zQ_pE, zJ_pE, zR_pI, zT_pI, zL_pI, zn_pI, zE_pI, zI_pI, zQ_pI, zJ_pI, zR_pR, zT_pR, zL_pR, zn_pR, zE_pR, zI_pR, zQ_pR, zJ_pR, zR_pJ, zT_pJ, zL_pJ, zn_pJ, zE_pJ, zI_pJ, zQ_pJ, zJ_pJ, oW, e1000, eo]
/-- the shard of a parent -/
theorem c_shardP {w num : Nat} {f : Flw} (wf : wfC h w num f) (hl : 0 < (flE f).length) {p : Nat} (hp : p < 1000000000) (ho : flO f < 0) (ep : (-1 - flO f) / 64 = nI p) : f_X9_shardOf w (-1) h = some (nI (p % 4), h) ∧ f_X9_parent w h = some (nI p, h) := by
  have pa := c_parent wf hl
  rw [if_pos ho, ep] at pa
  refine ⟨?_, pa⟩
  have oW := wf.1.1.1
  have r1002 := wf.1.1.2.2.2.1
  have oH : isO h (w + 2) 2 := wf.1.2.2.1.1
  have h60 := wf.2.1.1.2
  have pl : f_X1_placeOf (w + 2) 6 (-1) h = some (-1, h) := c_placeOf_m wf.1 wf.2.1 (flE f).length 0 fz (-1) (by omega) (fz_big (by omega)) ⟨0, Nat.le_refl _, by decide⟩
  have fm := (c_floorMod (m := p) (by omega) (b := 4) (by omega) (by omega) h).1
  have fm : f_J9_floorMod_7cf53 (nI p) 4 h = some (nI (p % 4), h) := fm
  have kk : ((-1 : Int32) = -1) = True := eq_true rfl
  simp only [f_X9_shardOf, o10, o00, bh, isO, inR, ck_true, bind_some9, Nat.reduceLeDiff, Nat.reduceEqDiff, and_self, and_true, true_and, false_and, and_false, not_false_eq_true, not_true_eq_false, or_self, or_false, false_or, if_true, if_false, reduceIte, zR_pE, zT_pE, zL_pE, zn_pE, zE_pE, zI_pE, zQ_pE, zJ_pE, zR_pI, zT_pI, zL_pI, zn_pI, zE_pI, zI_pI, zQ_pI, zJ_pI, zR_pR, zT_pR, zL_pR, zn_pR, zE_pR, zI_pR, zQ_pR, zJ_pR, zR_pJ, zT_pJ, zL_pJ, zn_pJ, zE_pJ, zI_pJ, zQ_pJ, zJ_pJ, oW, r1002, oH, pl, kk, pa, fm]
/-- the shard of a child -/
theorem c_shardK {w s n : Nat} {f : Flw} (wf : wfC h w (s + 4 * n) f) (hs : s < 4) (hn : n < 16) (ko : kOK (flE f)) {c d dd : Nat} (hc : c < 1000) (hd : plcOf 6 (flE f) c = some d) (hd2 : d < (flE f).length) (hdd : dd < 8) (e : (evAt (flE f) d).2.1 = nI dd) : f_X9_shardOf w (nI c) h = some (nI ((s + dd) % 4), h) := by
  obtain ⟨⟨oW, e1000, -, r1002, -⟩, -, ⟨oH, -, r201, -, -⟩, ⟨-, o4, -, -⟩, ⟨-, l4, -, -⟩, -⟩ := id wf.1
  have h60 := wf.2.1.1.2
  have pl := c_placeOf wf.1 wf.2.1 ko (k := 6) (n := c) (by omega) hc
  rw [hd] at pl
  have pl : f_X1_placeOf (w + 2) 6 (nI c) h = some (nI (0 + d), h) := pl
  rw [Nat.zero_add] at pl
  have ea : zE h (w + 4) d = nI dd := ((wf.2.1.2 d _ (ev_get hd2)).2.1).trans e
  have kc : (nI c = -1) = False := eq_false (zi_ne1 (by omega))
  have kd : (nI d = -1) = False := eq_false (zi_ne1 (by omega))
  have nd : (nI d).toNatClampNeg = d := zi_nat (by omega)
  have gd : ¬ nI d < 0 := zi_neg (by omega)
  have ld : ¬ 60 ≤ d := by omega
  have ad : nI (s + 4 * n) + nI dd = nI (s + 4 * n + dd) := zi_add _ _
  have fm := (c_floorMod (m := s + 4 * n + dd) (by omega) (b := 4) (by omega) (by omega) h).1
  rw [show (s + 4 * n + dd) % 4 = (s + dd) % 4 by omega] at fm
  have fm : f_J9_floorMod_7cf53 (nI (s + 4 * n + dd)) 4 h = some (nI ((s + dd) % 4), h) := fm
  simp only [f_X9_shardOf, o10, o00, bh, isO, inR, ck_true, bind_some9, Nat.reduceLeDiff, Nat.reduceEqDiff, and_self, and_true, true_and, false_and, and_false, not_false_eq_true, not_true_eq_false, or_self, or_false, false_or, if_true, if_false, reduceIte, zR_pE, zT_pE, zL_pE, zn_pE, zE_pE, zI_pE, zQ_pE, zJ_pE, zR_pI, zT_pI, zL_pI, zn_pI, zE_pI, zI_pI, zQ_pI, zJ_pI, zR_pR, zT_pR, zL_pR, zn_pR, zE_pR, zI_pR, zQ_pR, zJ_pR, zR_pJ, zT_pJ, zL_pJ, zn_pJ, zE_pJ, zI_pJ, zQ_pJ, zJ_pJ, oW, r1002, oH, pl, kc, kd, r201, o4, l4, nd, gd, ld, e1000, ea, ad, fm]
theorem c_sendSig (hv : vsOK vs) (hdg : vsDg vs) (hK : K ≤ 2000) (S : WdS vs K W) (R : CW vs now h own u v W) {s n k : Nat} (hs : s < 4) (hl : shL (W s) ≠ -1) (hn : n < shN (W s)) (hk : k < (flE (shF (W s) n)).length) (c9 : (evAt (flE (shF (W s) n)) k).1 = 9) : aCB vs now h own u v (wdSend vs now W s n k) (f_X10_sendSignal 8 (wfA s n) (nI k) h) := by
  obtain ⟨⟨o8, -, -, -, r3⟩, o13, l13, q13⟩ := id R.2.1
  obtain ⟨C, hS, hY⟩ := S s hs
  have ks := R.2.2 s hs
  have hNs := ks.2.2.2.2.1.1
  have wf : wfC h (wfA s n) (s + 4 * n) (shF (W s) n) := ks.2.2.2.1 _ (by omega)
  obtain ⟨⟨oW, e1000, -, r1002, -⟩, -, ⟨oH, -, r201, -, -⟩, ⟨-, o4, -, -⟩, ⟨-, l4, -, -⟩, -⟩ := id wf.1
  have h60 := wf.2.1.1.2
  obtain ⟨-, -, -, ko, -, -⟩ := row_ok hv hS.1 hn
  obtain ⟨l1, hes, -, hsk, l9⟩ := hS.1.len hn
  have hz := hS.1.2.1.2.2 n (by rw [← hS.1.2.1.1]; exact hn)
  have pdg : prgDg (flP (shF (W s) n)) := hdg _ (Nat.mod_lt _ (by decide)) _ (prgOf_mem hz.2.1)
  have ea : zE h (wfA s n + 4) k = (evAt (flE (shF (W s) n)) k).2.1 := (wf.2.1.2 k _ (ev_get hk)).2.1
  have nk : (nI k).toNatClampNeg = k := zi_nat (by omega)
  have gk : ¬ nI k < 0 := zi_neg (by omega)
  have lk : ¬ 60 ≤ k := by omega
  unfold wdSend
  simp only []
  rw [if_neg (by omega)]
  rcases sent_ok hsk hk c9 with ⟨a1, a2⟩ | ⟨c, a1, a2⟩
  · have neg : (evAt (flE (shF (W s) n)) k).2.1 < 0 := by rw [a1]; decide
    rw [if_neg (show ¬ ((evAt (flE (shF (W s) n)) k).1 = 9 ∧ 0 ≤ (evAt (flE (shF (W s) n)) k).2.1) from fun z => absurd neg (Int32.not_lt.mpr z.2)), if_pos c9]
    obtain ⟨v9, v1, v2⟩ := org_nat a2
    have ed : (-1 - rpO (flE (shF (W s) n))) / 64 = nI (v9 / 64) := by rw [v2, show (64 : Int32) = nI 64 from rfl, zi_div v1 (by omega) (by omega)]
    obtain ⟨sh, pa⟩ := c_shardP wf l1 (p := v9 / 64) (by omega) a2 ed
    rw [ed, zi_nat (by omega)]
    have pb : v9 / 64 < 1000000000 := by omega
    generalize v9 / 64 = p at *
    have ht : p % 4 < 4 := Nat.mod_lt _ (by decide)
    have kt := R.2.2 (p % 4) ht
    have qt := q13 (p % 4) ht
    have nt : (nI (p % 4)).toNatClampNeg = p % 4 := zi_nat (by omega)
    have gt : ¬ nI (p % 4) < 0 := zi_neg (by omega)
    have lt : ¬ 4 ≤ p % 4 := by omega
    have oA := kt.1.1.1
    have wk := c_works kt
    have kk : ((-1 : Int32) = -1) = True := eq_true rfl
    rw [a1] at ea
    by_cases cl : shL (W (p % 4)) = -1
    · rw [if_pos cl] at wk ⊢
      simp only [f_X10_sendSignal, o10, o00, bh, isO, inR, ck_true, bind_some9, Nat.reduceLeDiff, Nat.reduceEqDiff, and_self, and_true, true_and, false_and, and_false, not_false_eq_true, not_true_eq_false, or_self, or_false, false_or, if_true, if_false, reduceIte, zR_pE, zT_pE, zL_pE, zn_pE, zE_pE, zI_pE, zQ_pE, zJ_pE, zR_pI, zT_pI, zL_pI, zn_pI, zE_pI, zI_pI, zQ_pI, zJ_pI, zR_pR, zT_pR, zL_pR, zn_pR, zE_pR, zI_pR, zQ_pR, zJ_pR, zR_pJ, zT_pJ, zL_pJ, zn_pJ, zE_pJ, zI_pJ, zQ_pJ, zJ_pJ, oW, r1002, oH, r201, o4, l4, nk, gk, lk, ea, o8, sh, r3, o13, l13, nt, gt, lt, qt, oA, wk]
      exact aCB.id R false
    · rw [if_neg cl] at wk ⊢
      have ef := c_find R (nI p)
      rw [flw_nat W (by omega)] at ef
      by_cases cn : p / 4 < shN (W (p % 4))
      · rw [if_pos cn] at ef ⊢
        have ef : f_X10_find 8 (nI p) h = some (wfA (p % 4) (p / 4), h) := ef
        simp only [f_X10_sendSignal, o10, o00, bh, isO, inR, ck_true, bind_some9, Nat.reduceLeDiff, Nat.reduceEqDiff, and_self, and_true, true_and, false_and, and_false, not_false_eq_true, not_true_eq_false, or_self, or_false, false_or, if_true, if_false, reduceIte, zR_pE, zT_pE, zL_pE, zn_pE, zE_pE, zI_pE, zQ_pE, zJ_pE, zR_pI, zT_pI, zL_pI, zn_pI, zE_pI, zI_pI, zQ_pI, zJ_pI, zR_pR, zT_pR, zL_pR, zn_pR, zE_pR, zI_pR, zQ_pR, zJ_pR, zR_pJ, zT_pJ, zL_pJ, zn_pJ, zE_pJ, zI_pJ, zQ_pJ, zJ_pJ, oW, r1002, oH, r201, o4, l4, nk, gk, lk, ea, o8, sh, r3, o13, l13, nt, gt, lt, qt, oA, wk, kk, pa, ef]
        exact c_sig61 hv hK S R hs hn hk ht cl cn
      · rw [if_neg cn] at ef ⊢
        have ef : f_X10_find 8 (nI p) h = some (0, h) := ef
        have es := c_sig61n (k := k) (t := p % 4) R hs (by omega : n < 16)
        simp only [f_X10_sendSignal, o10, o00, bh, isO, inR, ck_true, bind_some9, Nat.reduceLeDiff, Nat.reduceEqDiff, and_self, and_true, true_and, false_and, and_false, not_false_eq_true, not_true_eq_false, or_self, or_false, false_or, if_true, if_false, reduceIte, zR_pE, zT_pE, zL_pE, zn_pE, zE_pE, zI_pE, zQ_pE, zJ_pE, zR_pI, zT_pI, zL_pI, zn_pI, zE_pI, zI_pI, zQ_pI, zJ_pI, zR_pR, zT_pR, zL_pR, zn_pR, zE_pR, zI_pR, zQ_pR, zJ_pR, zR_pJ, zT_pJ, zL_pJ, zn_pJ, zE_pJ, zI_pJ, zQ_pJ, zJ_pJ, oW, r1002, oH, r201, o4, l4, nk, gk, lk, ea, o8, sh, r3, o13, l13, nt, gt, lt, qt, oA, wk, kk, pa, ef, es]
        exact aCB.id R true
  · have cle := cnt_take_le (flE (shF (W s) n)) k
    have c60 : cntK 6 (flE (shF (W s) n)) ≤ 60 := Nat.le_trans (List.length_filter_le _ _) hes
    obtain ⟨d, hd⟩ := plc_le (es := flE (shF (W s) n)) (k := k) (by omega : c < cntK 6 (flE (shF (W s) n)))
    obtain ⟨pd1, pd2⟩ := plc_in 6 hd
    obtain ⟨dd, e1, e2⟩ := kid_digit pdg hsk pd1 pd2
    have ge : ¬ (evAt (flE (shF (W s) n)) k).2.1 < 0 := by rw [a2]; exact zi_neg (by omega)
    have nc : (nI c).toNatClampNeg = c := zi_nat (by omega)
    have kp : kidP (flE (shF (W s) n)) c = dd := by
      unfold kidP
      rw [hd]
      show (evAt (flE (shF (W s) n)) d).2.1.toNatClampNeg = dd
      rw [e2, zi_nat (by omega)]
    rw [if_pos (show (evAt (flE (shF (W s) n)) k).1 = 9 ∧ 0 ≤ (evAt (flE (shF (W s) n)) k).2.1 from ⟨c9, Int32.not_lt.mp ge⟩), a2, nc, kp]
    have sh := c_shardK wf hs (by omega) ko (c := c) (by omega) hd pd1 e1 e2
    have ht : (s + dd) % 4 < 4 := Nat.mod_lt _ (by decide)
    obtain ⟨Ct, hSt, hYt⟩ := S ((s + dd) % 4) ht
    have kt := R.2.2 ((s + dd) % 4) ht
    have qt := q13 ((s + dd) % 4) ht
    have eo := c_org kt hSt.1 (orgOf s n c)
    have eg := c_originOf s n c h
    generalize (s + dd) % 4 = t at *
    have nt : (nI t).toNatClampNeg = t := zi_nat (by omega)
    have gt : ¬ nI t < 0 := zi_neg (by omega)
    have lt : ¬ 4 ≤ t := by omega
    have oA := kt.1.1.1
    have wk := c_works kt
    have kc : (nI c = -1) = False := eq_false (zi_ne1 (by omega))
    rw [a2] at ea
    by_cases cl : shL (W t) = -1
    · rw [if_pos cl] at wk ⊢
      simp only [f_X10_sendSignal, o10, o00, bh, isO, inR, ck_true, bind_some9, Nat.reduceLeDiff, Nat.reduceEqDiff, and_self, and_true, true_and, false_and, and_false, not_false_eq_true, not_true_eq_false, or_self, or_false, false_or, if_true, if_false, reduceIte, zR_pE, zT_pE, zL_pE, zn_pE, zE_pE, zI_pE, zQ_pE, zJ_pE, zR_pI, zT_pI, zL_pI, zn_pI, zE_pI, zI_pI, zQ_pI, zJ_pI, zR_pR, zT_pR, zL_pR, zn_pR, zE_pR, zI_pR, zQ_pR, zJ_pR, zR_pJ, zT_pJ, zL_pJ, zn_pJ, zE_pJ, zI_pJ, zQ_pJ, zJ_pJ, oW, r1002, oH, r201, o4, l4, nk, gk, lk, ea, o8, sh, r3, o13, l13, nt, gt, lt, qt, oA, wk]
      exact aCB.id R false
    · rw [if_neg cl] at wk ⊢
      cases hog : shOrg (W t) (orgOf s n c) with
      | none =>
        rw [hog] at eo
        have eo : f_X6_rowWithOrigin (shA t) (orgOf s n c) h = some (0, h) := eo
        have es := c_sig61n (k := k) (t := t) R hs (by omega : n < 16)
        simp only [f_X10_sendSignal, o10, o00, bh, isO, inR, ck_true, bind_some9, Nat.reduceLeDiff, Nat.reduceEqDiff, and_self, and_true, true_and, false_and, and_false, not_false_eq_true, not_true_eq_false, or_self, or_false, false_or, if_true, if_false, reduceIte, zR_pE, zT_pE, zL_pE, zn_pE, zE_pE, zI_pE, zQ_pE, zJ_pE, zR_pI, zT_pI, zL_pI, zn_pI, zE_pI, zI_pI, zQ_pI, zJ_pI, zR_pR, zT_pR, zL_pR, zn_pR, zE_pR, zI_pR, zQ_pR, zJ_pR, zR_pJ, zT_pJ, zL_pJ, zn_pJ, zE_pJ, zI_pJ, zQ_pJ, zJ_pJ, oW, r1002, oH, r201, o4, l4, nk, gk, lk, ea, o8, sh, r3, o13, l13, nt, gt, lt, qt, oA, wk, kc, e1000, eg, eo, es]
        exact aCB.id R true
      | some m =>
        rw [hog] at eo
        have eo : f_X6_rowWithOrigin (shA t) (orgOf s n c) h = some (wfA t m, h) := eo
        simp only [f_X10_sendSignal, o10, o00, bh, isO, inR, ck_true, bind_some9, Nat.reduceLeDiff, Nat.reduceEqDiff, and_self, and_true, true_and, false_and, and_false, not_false_eq_true, not_true_eq_false, or_self, or_false, false_or, if_true, if_false, reduceIte, zR_pE, zT_pE, zL_pE, zn_pE, zE_pE, zI_pE, zQ_pE, zJ_pE, zR_pI, zT_pI, zL_pI, zn_pI, zE_pI, zI_pI, zQ_pI, zJ_pI, zR_pR, zT_pR, zL_pR, zn_pR, zE_pR, zI_pR, zQ_pR, zJ_pR, zR_pJ, zT_pJ, zL_pJ, zn_pJ, zE_pJ, zI_pJ, zQ_pJ, zJ_pJ, oW, r1002, oH, r201, o4, l4, nk, gk, lk, ea, o8, sh, r3, o13, l13, nt, gt, lt, qt, oA, wk, kc, e1000, eg, eo]
        exact c_sig61 hv hK S R hs hn hk ht cl (shOrg_some hog).1
end Calls
section Calls
variable {vs : Nat → List Prg} {now : Int32} {K : Nat} {h : Hp} {own : Nat → Nat} {u : Nat → Nat → Nat} {v : Nat → Nat} {W : Wld}
theorem plI9_is {o : Option Nat} (hl : ∀ d, o = some d → d < 1000) : (plI9 o 0 = -1) = (o.isSome = false) := by
  cases o with
  | none => exact propext ⟨fun _ => rfl, fun _ => rfl⟩
  | some d =>
    have := hl d rfl
    refine propext ⟨fun z => absurd z (zi_ne1 (by omega)), fun z => by cases z⟩
theorem endOf_in (c : Int32) : ∀ (es : List Evt) (d : Nat), endOf c es = some d → d < es.length
  | [], d, h => by cases h
  | e :: es, d, h => by
    unfold endOf at h
    split at h
    · cases h; simp
    · cases hc : endOf c es with
      | none => rw [hc] at h; cases h
      | some x =>
        rw [hc] at h
        have := endOf_in c es x hc
        have h : some (x + 1) = some d := h
        cases h
        simp
        exact this
theorem c_sendEnd (hv : vsOK vs) (hK : K ≤ 2000) (S : WdS vs K W) (R : CW vs now h own u v W) {s n k : Nat} (hs : s < 4) (hn : n < shN (W s)) (hk : k < (flE (shF (W s) n)).length) (c6 : (evAt (flE (shF (W s) n)) k).1 ≠ 6) (c9 : (evAt (flE (shF (W s) n)) k).1 ≠ 9) (a2 : rpO (flE (shF (W s) n)) < 0) : aCB vs now h own u v (wdSend vs now W s n k) (f_X10_sendEnd 8 (wfA s n) (nI k) h) := by
  obtain ⟨⟨o8, -, -, -, r3⟩, o13, l13, q13⟩ := id R.2.1
  have cx := R.1
  obtain ⟨C, hS, hY⟩ := S s hs
  have ks := R.2.2 s hs
  have hNs := ks.2.2.2.2.1.1
  have wf : wfC h (wfA s n) (s + 4 * n) (shF (W s) n) := ks.2.2.2.1 _ (by omega)
  obtain ⟨⟨oW, e1000, -, r1002, -⟩, -, ⟨oH, -, r201, -, r203⟩, ⟨-, o4, -, o6⟩, ⟨-, l4, -, l6⟩, -⟩ := id wf.1
  have h60 := wf.2.1.1.2
  obtain ⟨l1, hes, -, hsk, l9⟩ := hS.1.len hn
  have ea : zE h (wfA s n + 4) k = (evAt (flE (shF (W s) n)) k).2.1 := (wf.2.1.2 k _ (ev_get hk)).2.1
  have e0 : zE h (wfA s n + 6) 0 = rpO (flE (shF (W s) n)) := (wf.2.1.2 0 _ (ev_get l1)).2.2.2
  have nk : (nI k).toNatClampNeg = k := zi_nat (by omega)
  have gk : ¬ nI k < 0 := zi_neg (by omega)
  have lk : ¬ 60 ≤ k := by omega
  have t00 : Int32.toNatClampNeg 0 = 0 := rfl
  have n00 : ((0 : Int32) < 0) = False := eq_false (by decide)
  have l60 : ¬ 60 ≤ 0 := by omega
  unfold wdSend
  simp only []
  rw [if_neg c6, if_neg (fun z => c9 z.1), if_neg c9]
  have nac : f_X9_numberAsChild (wfA s n) h = some ((-1 - rpO (flE (shF (W s) n))) - (-1 - rpO (flE (shF (W s) n))) / 64 * 64, h) := by
    simp only [f_X9_numberAsChild, o10, o00, bh, isO, inR, ck_true, bind_some9, Nat.reduceLeDiff, Nat.reduceEqDiff, and_self, and_true, true_and, false_and, and_false, not_false_eq_true, not_true_eq_false, or_self, or_false, false_or, if_true, if_false, reduceIte, zR_pE, zT_pE, zL_pE, zn_pE, zE_pE, zI_pE, zQ_pE, zJ_pE, zR_pI, zT_pI, zL_pI, zn_pI, zE_pI, zI_pI, zQ_pI, zJ_pI, zR_pR, zT_pR, zL_pR, zn_pR, zE_pR, zI_pR, zQ_pR, zJ_pR, zR_pJ, zT_pJ, zL_pJ, zn_pJ, zE_pJ, zI_pJ, zQ_pJ, zJ_pJ, oW, r1002, oH, r203, o6, l6, t00, n00, l60, e0]
  obtain ⟨v9, v1, v2⟩ := org_nat a2
  have ed : (-1 - rpO (flE (shF (W s) n))) / 64 = nI (v9 / 64) := by rw [v2, show (64 : Int32) = nI 64 from rfl, zi_div v1 (by omega) (by omega)]
  obtain ⟨sh, pa⟩ := c_shardP wf l1 (p := v9 / 64) (by omega) a2 ed
  generalize hcc : (-1 - rpO (flE (shF (W s) n))) - (-1 - rpO (flE (shF (W s) n))) / 64 * 64 = cc at *
  rw [ed, zi_nat (by omega)]
  have pb : v9 / 64 < 1000000000 := by omega
  generalize v9 / 64 = p at *
  have ht : p % 4 < 4 := Nat.mod_lt _ (by decide)
  have kt := R.2.2 (p % 4) ht
  have qt := q13 (p % 4) ht
  have nt : (nI (p % 4)).toNatClampNeg = p % 4 := zi_nat (by omega)
  have gt : ¬ nI (p % 4) < 0 := zi_neg (by omega)
  have lt : ¬ 4 ≤ p % 4 := by omega
  have oA := kt.1.1.1
  have wk := c_works kt
  by_cases cl : shL (W (p % 4)) = -1
  · rw [if_pos cl] at wk ⊢
    simp only [f_X10_sendEnd, o10, o00, bh, isO, inR, ck_true, bind_some9, Nat.reduceLeDiff, Nat.reduceEqDiff, and_self, and_true, true_and, false_and, and_false, not_false_eq_true, not_true_eq_false, or_self, or_false, false_or, if_true, if_false, reduceIte, zR_pE, zT_pE, zL_pE, zn_pE, zE_pE, zI_pE, zQ_pE, zJ_pE, zR_pI, zT_pI, zL_pI, zn_pI, zE_pI, zI_pI, zQ_pI, zJ_pI, zR_pR, zT_pR, zL_pR, zn_pR, zE_pR, zI_pR, zQ_pR, zJ_pR, zR_pJ, zT_pJ, zL_pJ, zn_pJ, zE_pJ, zI_pJ, zQ_pJ, zJ_pJ, o8, oW, sh, r3, o13, l13, nt, gt, lt, qt, oA, wk]
    exact aCB.id R false
  · rw [if_neg cl] at wk ⊢
    have ef := c_find R (nI p)
    rw [flw_nat W (by omega)] at ef
    by_cases cn : p / 4 < shN (W (p % 4))
    · rw [if_pos cn] at ef ⊢
      have ef : f_X10_find 8 (nI p) h = some (wfA (p % 4) (p / 4), h) := ef
      generalize p % 4 = t at *
      generalize p / 4 = m at *
      obtain ⟨Ct, hSt, hYt⟩ := S t ht
      have hNt := kt.2.2.2.2.1.1
      have wm : wfC h (wfA t m) (t + 4 * m) (shF (W t) m) := kt.2.2.2.1 _ (by omega)
      obtain ⟨⟨oM, -, -, m1002, -⟩, -, ⟨oMH, -⟩, -⟩ := id wm.1
      have ne := wfA_ne t m
      have wP := wm.2.2.1.2.2.2.1
      obtain ⟨-, -, -, ko, G, -⟩ := row_ok hv hSt.1 cn
      have hP : wkP (flW (shF (W t) m)) ≤ 5 := G.2.2.2.2.1
      obtain ⟨-, hes2, -, -, l92⟩ := hSt.1.len cn
      have eg := c_endOf wm.1 wm.2.1 ko cc
      have egi := plI9_is (o := endOf cc (flE (shF (W t) m))) (fun d hd => by have := endOf_in _ _ d hd; omega)
      unfold wdTell
      by_cases c4 : wkP (flW (shF (W t) m)) = 4
      · rw [if_pos (Or.inl c4)]
        have d4 : (nI (wkP (flW (shF (W t) m))) = 4) = True := eq_true (by rw [c4]; rfl)
        simp only [f_X10_sendEnd, o10, o00, bh, isO, inR, ck_true, bind_some9, Nat.reduceLeDiff, Nat.reduceEqDiff, and_self, and_true, true_and, false_and, and_false, not_false_eq_true, not_true_eq_false, or_self, or_false, false_or, if_true, if_false, reduceIte, zR_pE, zT_pE, zL_pE, zn_pE, zE_pE, zI_pE, zQ_pE, zJ_pE, zR_pI, zT_pI, zL_pI, zn_pI, zE_pI, zI_pI, zQ_pI, zJ_pI, zR_pR, zT_pR, zL_pR, zn_pR, zE_pR, zI_pR, zQ_pR, zJ_pR, zR_pJ, zT_pJ, zL_pJ, zn_pJ, zE_pJ, zI_pJ, zQ_pJ, zJ_pJ, o8, oW, sh, r3, o13, l13, nt, gt, lt, qt, oA, wk, pa, ef, nac, ne, oM, wP, d4]
        exact aCB.id R true
      · have d4 : (nI (wkP (flW (shF (W t) m))) = 4) = False := eq_false (fun z => c4 ((zi_eq (b := 4) (by omega) (by omega)).mp z))
        cases cg : (endOf cc (flE (shF (W t) m))).isSome with
        | true =>
          rw [if_pos (Or.inr rfl)]
          have egi : (plI9 (endOf cc (flE (shF (W t) m))) 0 = -1) = False := by rw [egi, cg]; exact eq_false (fun z => by cases z)
          simp only [f_X10_sendEnd, o10, o00, bh, isO, inR, ck_true, bind_some9, Nat.reduceLeDiff, Nat.reduceEqDiff, and_self, and_true, true_and, false_and, and_false, not_false_eq_true, not_true_eq_false, or_self, or_false, false_or, if_true, if_false, reduceIte, zR_pE, zT_pE, zL_pE, zn_pE, zE_pE, zI_pE, zQ_pE, zJ_pE, zR_pI, zT_pI, zL_pI, zn_pI, zE_pI, zI_pI, zQ_pI, zJ_pI, zR_pR, zT_pR, zL_pR, zn_pR, zE_pR, zI_pR, zQ_pR, zJ_pR, zR_pJ, zT_pJ, zL_pJ, zn_pJ, zE_pJ, zI_pJ, zQ_pJ, zJ_pJ, o8, oW, sh, r3, o13, l13, nt, gt, lt, qt, oA, wk, pa, ef, nac, ne, oM, wP, d4, m1002, oMH, eg, egi]
          exact aCB.id R true
        | false =>
          rw [if_neg (by
            rintro (z | z)
            · exact c4 z
            · cases z)]
          have egi : (plI9 (endOf cc (flE (shF (W t) m))) 0 = -1) = True := by rw [egi, cg]; exact eq_true rfl
          have c5 : wkP (flW (shF (W t) m)) ≠ 5 := hSt.2.1 cl m cn
          obtain ⟨h1, x1, d⟩ := c_bringS hv ht hK cx kt hSt.1 hYt cl cn (kd := 7) (a := cc) (b := (evAt (flE (shF (W s) n)) k).2.1) (o := 0) (end_ok (by rw [← l92]; exact c4) (by rw [← l92]; exact c5))
          obtain ⟨oA1, h2, own2, u2, v2', x2, R2, A2⟩ := R.don ht d
          refine ⟨h2, own2, u2, v2', ?_, R2, A2⟩
          have ib := isB_if (shBring now (W t) m 7 cc (evAt (flE (shF (W s) n)) k).2.1 0).1
          dsimp only
          generalize (if (shBring now (W t) m 7 cc (evAt (flE (shF (W s) n)) k).2.1 0).1 = true then (1 : Int32) else 0) = r9 at *
          have x1 : f_X6_bring (shA t) (wfA t m) 7 cc (evAt (flE (shF (W s) n)) k).2.1 0 h = some (r9, h1) := x1
          simp only [f_X10_sendEnd, o10, o00, bh, isO, inR, ck_true, bind_some9, Nat.reduceLeDiff, Nat.reduceEqDiff, and_self, and_true, true_and, false_and, and_false, not_false_eq_true, not_true_eq_false, or_self, or_false, false_or, if_true, if_false, reduceIte, zR_pE, zT_pE, zL_pE, zn_pE, zE_pE, zI_pE, zQ_pE, zJ_pE, zR_pI, zT_pI, zL_pI, zn_pI, zE_pI, zI_pI, zQ_pI, zJ_pI, zR_pR, zT_pR, zL_pR, zn_pR, zE_pR, zI_pR, zQ_pR, zJ_pR, zR_pJ, zT_pJ, zL_pJ, zn_pJ, zE_pJ, zI_pJ, zQ_pJ, zJ_pJ, o8, oW, sh, r3, o13, l13, nt, gt, lt, qt, oA, wk, pa, ef, nac, ne, oM, wP, d4, m1002, oMH, eg, egi, r1002, oH, r201, o4, l4, nk, gk, lk, ea, x1, oA1, x2, ib]
    · rw [if_neg cn] at ef ⊢
      have ef : f_X10_find 8 (nI p) h = some (0, h) := ef
      simp only [f_X10_sendEnd, o10, o00, bh, isO, inR, ck_true, bind_some9, Nat.reduceLeDiff, Nat.reduceEqDiff, and_self, and_true, true_and, false_and, and_false, not_false_eq_true, not_true_eq_false, or_self, or_false, false_or, if_true, if_false, reduceIte, zR_pE, zT_pE, zL_pE, zn_pE, zE_pE, zI_pE, zQ_pE, zJ_pE, zR_pI, zT_pI, zL_pI, zn_pI, zE_pI, zI_pI, zQ_pI, zJ_pI, zR_pR, zT_pR, zL_pR, zn_pR, zE_pR, zI_pR, zQ_pR, zJ_pR, zR_pJ, zT_pJ, zL_pJ, zn_pJ, zE_pJ, zI_pJ, zQ_pJ, zJ_pJ, o8, oW, sh, r3, o13, l13, nt, gt, lt, qt, oA, wk, pa, ef, nac]
      exact aCB.id R true
theorem c_bear (hv : vsOK vs) (hK : K ≤ 2000) (S : WdS vs K W) (R : CW vs now h own u v W) {s n k : Nat} (hs : s < 4) (hl : shL (W s) ≠ -1) (hn : n < shN (W s)) (hk : k < (flE (shF (W s) n)).length) {d : Nat} (hd : d < 8) (e2 : (evAt (flE (shF (W s) n)) k).2.1 = nI d) : aCB vs now h own u v (wdBear vs now W s n k) (f_X10_sendStart 8 (shA s) (wfA s n) (nI k) h) := by
  obtain ⟨⟨o8, -, -, -, r3⟩, o13, l13, q13⟩ := id R.2.1
  have cx := R.1
  obtain ⟨C, hS, hY⟩ := S s hs
  have ks := R.2.2 s hs
  have hNs := ks.2.2.2.2.1.1
  have wf : wfC h (wfA s n) (s + 4 * n) (shF (W s) n) := ks.2.2.2.1 _ (by omega)
  obtain ⟨⟨oW, e1000, -, r1002, -⟩, -, ⟨oH, -, r201, r202, -⟩, ⟨-, o4, o5, -⟩, ⟨-, l4, l5, -⟩, -⟩ := id wf.1
  have h60 := wf.2.1.1.2
  obtain ⟨-, -, -, ko, G, -⟩ := row_ok hv hS.1 hn
  have hP : wkP (flW (shF (W s) n)) ≤ 5 := G.2.2.2.2.1
  obtain ⟨l1, hes, -, hsk, l9⟩ := hS.1.len hn
  have ea : zE h (wfA s n + 4) k = nI d := ((wf.2.1.2 k _ (ev_get hk)).2.1).trans e2
  have eb : zE h (wfA s n + 5) k = (evAt (flE (shF (W s) n)) k).2.2.1 := (wf.2.1.2 k _ (ev_get hk)).2.2.1
  have nk : (nI k).toNatClampNeg = k := zi_nat (by omega)
  have gk : ¬ nI k < 0 := zi_neg (by omega)
  have lk : ¬ 60 ≤ k := by omega
  have nd : (nI d).toNatClampNeg = d := zi_nat (by omega)
  have oS := ks.1.1.1
  have e700 := ks.1.1.2.1
  have ad : nI s + nI d = nI (s + d) := zi_add _ _
  have fm := (c_floorMod (m := s + d) (by omega) (b := 4) (by omega) (by omega) h).1
  have fm : f_J9_floorMod_7cf53 (nI (s + d)) 4 h = some (nI ((s + d) % 4), h) := fm
  have ec := c_count wf.1 wf.2.1 ko (k := 6) (by omega) (Nat.le_of_lt hk)
  have ec : f_X1_count (wfA s n + 2) 6 (nI k) h = some (nI (cntK 6 ((flE (shF (W s) n)).take k)), h) := ec
  have wP := wf.2.2.1.2.2.2.1
  unfold wdBear
  simp only []
  rw [e2, nd]
  have ht : (s + d) % 4 < 4 := Nat.mod_lt _ (by decide)
  obtain ⟨Ct, hSt, hYt⟩ := S ((s + d) % 4) ht
  have kt := R.2.2 ((s + d) % 4) ht
  have qt := q13 ((s + d) % 4) ht
  have eo := c_org kt hSt.1 (orgOf s n (cntK 6 ((flE (shF (W s) n)).take k)))
  have eg := c_originOf s n (cntK 6 ((flE (shF (W s) n)).take k)) h
  have ee := c_endOf wf.1 wf.2.1 ko (nI (cntK 6 ((flE (shF (W s) n)).take k)))
  have eei := plI9_is (o := endOf (nI (cntK 6 ((flE (shF (W s) n)).take k))) (flE (shF (W s) n))) (fun d hd => by have := endOf_in _ _ d hd; omega)
  have er := c_room hv cx kt (nI d)
  rw [nd] at er
  generalize cntK 6 ((flE (shF (W s) n)).take k) = c at *
  generalize (s + d) % 4 = t at *
  have nt : (nI t).toNatClampNeg = t := zi_nat (by omega)
  have gt : ¬ nI t < 0 := zi_neg (by omega)
  have lt : ¬ 4 ≤ t := by omega
  have oA := kt.1.1.1
  have wk := c_works kt
  by_cases cl : shL (W t) = -1
  · rw [if_pos cl] at wk ⊢
    simp only [f_X10_sendStart, o10, o00, bh, isO, inR, ck_true, bind_some9, Nat.reduceLeDiff, Nat.reduceEqDiff, and_self, and_true, true_and, false_and, and_false, not_false_eq_true, not_true_eq_false, or_self, or_false, false_or, if_true, if_false, reduceIte, zR_pE, zT_pE, zL_pE, zn_pE, zE_pE, zI_pE, zQ_pE, zJ_pE, zR_pI, zT_pI, zL_pI, zn_pI, zE_pI, zI_pI, zQ_pI, zJ_pI, zR_pR, zT_pR, zL_pR, zn_pR, zE_pR, zI_pR, zQ_pR, zJ_pR, zR_pJ, zT_pJ, zL_pJ, zn_pJ, zE_pJ, zI_pJ, zQ_pJ, zJ_pJ, oW, r1002, oH, r201, o4, l4, nk, gk, lk, ea, o8, oS, e700, ad, fm, r3, o13, l13, nt, gt, lt, qt, oA, wk]
    exact aCB.id R false
  · rw [if_neg cl] at wk ⊢
    cases hog : shOrg (W t) (orgOf s n c) with
    | some m =>
      rw [hog] at eo
      have eo : f_X6_rowWithOrigin (shA t) (orgOf s n c) h = some (wfA t m, h) := eo
      have ne := wfA_ne t m
      rw [if_pos (show (some m).isSome = true ∨ _ from Or.inl rfl)]
      simp only [f_X10_sendStart, o10, o00, bh, isO, inR, ck_true, bind_some9, Nat.reduceLeDiff, Nat.reduceEqDiff, and_self, and_true, true_and, false_and, and_false, not_false_eq_true, not_true_eq_false, or_self, or_false, false_or, if_true, if_false, reduceIte, zR_pE, zT_pE, zL_pE, zn_pE, zE_pE, zI_pE, zQ_pE, zJ_pE, zR_pI, zT_pI, zL_pI, zn_pI, zE_pI, zI_pI, zQ_pI, zJ_pI, zR_pR, zT_pR, zL_pR, zn_pR, zE_pR, zI_pR, zQ_pR, zJ_pR, zR_pJ, zT_pJ, zL_pJ, zn_pJ, zE_pJ, zI_pJ, zQ_pJ, zJ_pJ, oW, r1002, oH, r201, o4, l4, nk, gk, lk, ea, o8, oS, e700, ad, fm, r3, o13, l13, nt, gt, lt, qt, oA, wk, ec, e1000, eg, eo, ne]
      exact aCB.id R true
    | none =>
      rw [hog] at eo
      have eo : f_X6_rowWithOrigin (shA t) (orgOf s n c) h = some (0, h) := eo
      cases cg : (endOf (nI c) (flE (shF (W s) n))).isSome with
      | true =>
        rw [if_pos (Or.inr rfl)]
        have eei : (plI9 (endOf (nI c) (flE (shF (W s) n))) 0 = -1) = False := by rw [eei, cg]; exact eq_false (fun z => by cases z)
        simp only [f_X10_sendStart, o10, o00, bh, isO, inR, ck_true, bind_some9, Nat.reduceLeDiff, Nat.reduceEqDiff, and_self, and_true, true_and, false_and, and_false, not_false_eq_true, not_true_eq_false, or_self, or_false, false_or, if_true, if_false, reduceIte, zR_pE, zT_pE, zL_pE, zn_pE, zE_pE, zI_pE, zQ_pE, zJ_pE, zR_pI, zT_pI, zL_pI, zn_pI, zE_pI, zI_pI, zQ_pI, zJ_pI, zR_pR, zT_pR, zL_pR, zn_pR, zE_pR, zI_pR, zQ_pR, zJ_pR, zR_pJ, zT_pJ, zL_pJ, zn_pJ, zE_pJ, zI_pJ, zQ_pJ, zJ_pJ, oW, r1002, oH, r201, o4, l4, nk, gk, lk, ea, o8, oS, e700, ad, fm, r3, o13, l13, nt, gt, lt, qt, oA, wk, ec, e1000, eg, eo, ee, eei]
        exact aCB.id R true
      | false =>
        have eei : (plI9 (endOf (nI c) (flE (shF (W s) n))) 0 = -1) = True := by rw [eei, cg]; exact eq_true rfl
        rw [if_neg (by
          rintro (z | z)
          · cases z
          · cases z)]
        have hNt := kt.2.2.2.2.1.1
        by_cases cr : shN (W t) < 16 ∧ vs d ≠ []
        · rw [if_neg (by
            rintro (z | z | z | z)
            · exact absurd z (zi_neg (by omega))
            · exact absurd ((zi_le (a := 8) (by omega) (by omega)).mp z) (by omega)
            · exact cr.2 z
            · omega)] at er
          rw [if_pos cr]
          obtain ⟨h1, x1, dn⟩ := c_beginS hv ht hK cx kt hSt.1 hYt cl cr.1 hd cr.2 (evAt (flE (shF (W s) n)) k).2.2.1 (orgOf s n c)
          obtain ⟨oA1, h2, own2, u2, v2, x2, R2, A2⟩ := R.don ht dn
          refine ⟨h2, own2, u2, v2, ?_, R2, A2⟩
          have ib := isB_if (shBegin vs now (W t) d (evAt (flE (shF (W s) n)) k).2.2.1 (orgOf s n c)).1
          dsimp only
          generalize (if (shBegin vs now (W t) d (evAt (flE (shF (W s) n)) k).2.2.1 (orgOf s n c)).1 = true then (1 : Int32) else 0) = r9 at *
          simp only [f_X10_sendStart, o10, o00, bh, isO, inR, ck_true, bind_some9, Nat.reduceLeDiff, Nat.reduceEqDiff, and_self, and_true, true_and, false_and, and_false, not_false_eq_true, not_true_eq_false, or_self, or_false, false_or, if_true, if_false, reduceIte, zR_pE, zT_pE, zL_pE, zn_pE, zE_pE, zI_pE, zQ_pE, zJ_pE, zR_pI, zT_pI, zL_pI, zn_pI, zE_pI, zI_pI, zQ_pI, zJ_pI, zR_pR, zT_pR, zL_pR, zn_pR, zE_pR, zI_pR, zQ_pR, zJ_pR, zR_pJ, zT_pJ, zL_pJ, zn_pJ, zE_pJ, zI_pJ, zQ_pJ, zJ_pJ, oW, r1002, oH, r201, r202, o4, l4, o5, l5, nk, gk, lk, ea, eb, o8, oS, e700, ad, fm, r3, o13, l13, nt, gt, lt, qt, oA, wk, ec, e1000, eg, eo, ee, eei, er, show ((1 : Int32) = 0) = False from eq_false (by decide), x1, oA1, x2, ib]
        · rw [if_pos (by
            by_cases z : vs d = []
            · exact Or.inr (Or.inr (Or.inl z))
            · refine Or.inr (Or.inr (Or.inr ?_))
              by_cases z2 : shN (W t) < 16
              · exact absurd ⟨z2, z⟩ cr
              · omega)] at er
          rw [if_neg cr]
          unfold wdTell
          by_cases c4 : wkP (flW (shF (W s) n)) = 4
          · rw [if_pos (Or.inl c4)]
            have d4 : (nI (wkP (flW (shF (W s) n))) = 4) = True := eq_true (by rw [c4]; rfl)
            simp only [f_X10_sendStart, o10, o00, bh, isO, inR, ck_true, bind_some9, Nat.reduceLeDiff, Nat.reduceEqDiff, and_self, and_true, true_and, false_and, and_false, not_false_eq_true, not_true_eq_false, or_self, or_false, false_or, if_true, if_false, reduceIte, zR_pE, zT_pE, zL_pE, zn_pE, zE_pE, zI_pE, zQ_pE, zJ_pE, zR_pI, zT_pI, zL_pI, zn_pI, zE_pI, zI_pI, zQ_pI, zJ_pI, zR_pR, zT_pR, zL_pR, zn_pR, zE_pR, zI_pR, zQ_pR, zJ_pR, zR_pJ, zT_pJ, zL_pJ, zn_pJ, zE_pJ, zI_pJ, zQ_pJ, zJ_pJ, oW, r1002, oH, r201, r202, o4, l4, o5, l5, nk, gk, lk, ea, eb, o8, oS, e700, ad, fm, r3, o13, l13, nt, gt, lt, qt, oA, wk, ec, e1000, eg, eo, ee, eei, er, wP, d4]
            exact aCB.id R true
          · rw [if_neg (by
              rintro (z | z)
              · exact c4 z
              · rw [cg] at z; cases z)]
            have d4 : (nI (wkP (flW (shF (W s) n))) = 4) = False := eq_false (fun z => c4 ((zi_eq (b := 4) (by omega) (by omega)).mp z))
            have c5 : wkP (flW (shF (W s) n)) ≠ 5 := hS.2.1 hl n hn
            obtain ⟨h1, x1, dn⟩ := c_bringS hv hs hK cx ks hS.1 hY hl hn (kd := 7) (a := nI c) (b := -3) (o := 0) (end_ok (by rw [← l9]; exact c4) (by rw [← l9]; exact c5))
            obtain ⟨oA1, h2, own2, u2, v2, x2, R2, A2⟩ := R.don hs dn
            refine ⟨h2, own2, u2, v2, ?_, R2, A2⟩
            have ib := isB_if (shBring now (W s) n 7 (nI c) (-3) 0).1
            dsimp only
            generalize (if (shBring now (W s) n 7 (nI c) (-3) 0).1 = true then (1 : Int32) else 0) = r9 at *
            have x1 : f_X6_bring (shA s) (wfA s n) 7 (nI c) (-3) 0 h = some (r9, h1) := x1
            simp only [f_X10_sendStart, o10, o00, bh, isO, inR, ck_true, bind_some9, Nat.reduceLeDiff, Nat.reduceEqDiff, and_self, and_true, true_and, false_and, and_false, not_false_eq_true, not_true_eq_false, or_self, or_false, false_or, if_true, if_false, reduceIte, zR_pE, zT_pE, zL_pE, zn_pE, zE_pE, zI_pE, zQ_pE, zJ_pE, zR_pI, zT_pI, zL_pI, zn_pI, zE_pI, zI_pI, zQ_pI, zJ_pI, zR_pR, zT_pR, zL_pR, zn_pR, zE_pR, zI_pR, zQ_pR, zJ_pR, zR_pJ, zT_pJ, zL_pJ, zn_pJ, zE_pJ, zI_pJ, zQ_pJ, zJ_pJ, oW, r1002, oH, r201, r202, o4, l4, o5, l5, nk, gk, lk, ea, eb, o8, oS, e700, ad, fm, r3, o13, l13, nt, gt, lt, qt, oA, wk, ec, e1000, eg, eo, ee, eei, er, wP, d4, x1, oA1, x2, ib]
end Calls
/-! MESSAGES ARE GONE THROUGH, IN THE CLASS -/
theorem find_at {α : Type} (f : α → Bool) : ∀ (L : List α), (L.findIdx? f = none ∧ L.find? f = none) ∨ ∃ i m, L.findIdx? f = some i ∧ L[i]? = some m ∧ L.find? f = some m ∧ f m = true
  | [] => Or.inl ⟨rfl, rfl⟩
  | a :: L => by
    rw [List.findIdx?_cons, List.find?_cons]
    cases ha : f a with
    | true => exact Or.inr ⟨0, a, rfl, rfl, rfl, ha⟩
    | false =>
      rcases find_at f L with ⟨h1, h2⟩ | ⟨i, m, h1, h2, h3, h4⟩
      · left
        rw [h1]
        exact ⟨rfl, h2⟩
      · right
        rw [h1]
        exact ⟨i + 1, m, rfl, by rw [List.getElem?_cons_succ]; exact h2, h3, h4⟩
section Calls
variable {vs : Nat → List Prg} {now : Int32} {K : Nat}
theorem c_send {h : Hp} {own : Nat → Nat} {u : Nat → Nat → Nat} {v : Nat → Nat} {W : Wld} (hv : vsOK vs) (hdg : vsDg vs) (hK : K ≤ 2000) (S : WdS vs K W) (R : CW vs now h own u v W) {s : Nat} (hs : s < 4) (hl : shL (W s) ≠ -1) {m : Nat × Nat × Nat} (hm : m ∈ shO (W s)) {K21 : Nat → Nat → Int32 → Int32 → Int32 → Hp → Option Hp} {i lim : Nat} {l4 : Int32} {a b c nn : Nat} (ob : obR h (shA s + 4) a b c nn (shO (W s))) (hob : (shO (W s)).length ≤ nn) (hn9 : nn < 1000000) (hi : (shO (W s))[i]? = some m) (hlim : lim < 1000000) (m1k : m.1 < 1000000) (hml : m.1 < lim) : ∃ h1 own1 u1 v1, f_X10_sendAll_68 K21 (wfA s m.2.1) 8 (shA s) (nI lim) l4 (nI i) h = f_X10_sendAll_171 K21 (if (wdSend vs now W s m.2.1 m.2.2).1 = true then 1 else 0) 8 (shA s) (nI lim) (nI m.1) l4 h1 ∧ CW vs now h1 own1 u1 v1 (wdSend vs now W s m.2.1 m.2.2).2 ∧ acW h own u v h1 own1 u1 v1 := by
  obtain ⟨C, c1, c2⟩ := S s hs
  obtain ⟨m1, m2, m3, m4, m5⟩ := msg_ok hdg c1.1 hm
  have o8 := R.2.1.1.1
  have k := R.2.2 s hs
  have hN := k.2.2.2.2.1.1
  obtain ⟨⟨oO, r300, r301, r302⟩, ⟨oa, ob9, oc⟩, -, ⟨la, lb, lc⟩, -, eO⟩ := id ob
  have iL : i < (shO (W s)).length := (List.getElem?_eq_some_iff.mp hi).1
  obtain ⟨ea, eb, ec⟩ := eO i m hi
  have oA := k.1.1.1
  have r706 := k.1.1.2.2.2.2.2.2.2
  have ni : (nI i).toNatClampNeg = i := zi_nat (by omega)
  have gi : ¬ nI i < 0 := zi_neg (by omega)
  have li : ¬ nn ≤ i := by omega
  have ne := wfA_ne s m.2.1
  have wf : wfC h (wfA s m.2.1) (s + 4 * m.2.1) (shF (W s) m.2.1) := k.2.2.2.1 _ (by omega)
  obtain ⟨⟨oW, e1000, -, r1002, -⟩, -, ⟨oH, r200, -⟩, ⟨o3, -⟩, ⟨l3, -⟩, -⟩ := id wf.1
  have h60 := wf.2.1.1.2
  have eK : zE h (wfA s m.2.1 + 3) m.2.2 = nI (evAt (flE (shF (W s) m.2.1)) m.2.2).1 := (wf.2.1.2 _ _ (ev_get m2)).1
  have nk : (nI m.2.2).toNatClampNeg = m.2.2 := zi_nat (by omega)
  have gk : ¬ nI m.2.2 < 0 := zi_neg (by omega)
  have lk : ¬ 60 ≤ m.2.2 := by omega
  have hc : (nI m.1 < nI lim) = True := eq_true ((zi_lt (by omega) (by omega)).mpr hml)
  obtain ⟨-, -, -, ko, -, -⟩ := row_ok hv c1.1 m1
  have kb : (evAt (flE (shF (W s) m.2.1)) m.2.2).1 < 1000 := by
    have := ko _ (List.mem_of_getElem? (ev_get m2))
    omega
  have q6 : (nI (evAt (flE (shF (W s) m.2.1)) m.2.2).1 = 6) = ((evAt (flE (shF (W s) m.2.1)) m.2.2).1 = 6) := propext (zi_eq (b := 6) (by omega) (by omega))
  have q9 : (nI (evAt (flE (shF (W s) m.2.1)) m.2.2).1 = 9) = ((evAt (flE (shF (W s) m.2.1)) m.2.2).1 = 9) := propext (zi_eq (b := 9) (by omega) (by omega))
  by_cases c6 : (evAt (flE (shF (W s) m.2.1)) m.2.2).1 = 6
  · obtain ⟨d, d1, d2⟩ := m5 c6
    obtain ⟨h1, own1, u1, v1, x1, x2, x3⟩ := c_bear hv hK S R hs hl m1 m2 d1 d2
    have eW : wdSend vs now W s m.2.1 m.2.2 = wdBear vs now W s m.2.1 m.2.2 := by
      unfold wdSend
      simp only []
      rw [if_pos c6]
    rw [eW]
    refine ⟨h1, own1, u1, v1, ?_, x2, x3⟩
    simp only [f_X10_sendAll_68, o10, o00, bh, isO, inR, ck_true, bind_some9, Nat.reduceLeDiff, Nat.reduceEqDiff, and_self, and_true, true_and, false_and, and_false, not_false_eq_true, not_true_eq_false, or_self, or_false, false_or, if_true, if_false, reduceIte, zR_pE, zT_pE, zL_pE, zn_pE, zE_pE, zI_pE, zQ_pE, zJ_pE, zR_pI, zT_pI, zL_pI, zn_pI, zE_pI, zI_pI, zQ_pI, zJ_pI, zR_pR, zT_pR, zL_pR, zn_pR, zE_pR, zI_pR, zQ_pR, zJ_pR, zR_pJ, zT_pJ, zL_pJ, zn_pJ, zE_pJ, zI_pJ, zQ_pJ, zJ_pJ, ne, oA, r706, oO, r300, oa, la, ni, gi, li, ea, hc, r302, oc, lc, ec, oW, r1002, oH, r200, o3, l3, nk, gk, lk, eK, q6, eq_true c6, o8, x1]
  · by_cases c9 : (evAt (flE (shF (W s) m.2.1)) m.2.2).1 = 9
    · obtain ⟨h1, own1, u1, v1, x1, x2, x3⟩ := c_sendSig hv hdg hK S R hs hl m1 m2 c9
      refine ⟨h1, own1, u1, v1, ?_, x2, x3⟩
      simp only [f_X10_sendAll_68, o10, o00, bh, isO, inR, ck_true, bind_some9, Nat.reduceLeDiff, Nat.reduceEqDiff, and_self, and_true, true_and, false_and, and_false, not_false_eq_true, not_true_eq_false, or_self, or_false, false_or, if_true, if_false, reduceIte, zR_pE, zT_pE, zL_pE, zn_pE, zE_pE, zI_pE, zQ_pE, zJ_pE, zR_pI, zT_pI, zL_pI, zn_pI, zE_pI, zI_pI, zQ_pI, zJ_pI, zR_pR, zT_pR, zL_pR, zn_pR, zE_pR, zI_pR, zQ_pR, zJ_pR, zR_pJ, zT_pJ, zL_pJ, zn_pJ, zE_pJ, zI_pJ, zQ_pJ, zJ_pJ, ne, oA, r706, oO, r300, oa, la, ni, gi, li, ea, hc, r302, oc, lc, ec, oW, r1002, oH, r200, o3, l3, nk, gk, lk, eK, q6, eq_false c6, q9, eq_true c9, o8, x1]
    · have o0 : rpO (flE (shF (W s) m.2.1)) < 0 := by
        unfold bkMsg at m4
        rw [decide_eq_false c6, decide_eq_false c9, Bool.false_or, Bool.false_or, Bool.and_eq_true] at m4
        exact of_decide_eq_true m4.2
      obtain ⟨h1, own1, u1, v1, x1, x2, x3⟩ := c_sendEnd hv hK S R hs m1 m2 c6 c9 o0
      refine ⟨h1, own1, u1, v1, ?_, x2, x3⟩
      simp only [f_X10_sendAll_68, o10, o00, bh, isO, inR, ck_true, bind_some9, Nat.reduceLeDiff, Nat.reduceEqDiff, and_self, and_true, true_and, false_and, and_false, not_false_eq_true, not_true_eq_false, or_self, or_false, false_or, if_true, if_false, reduceIte, zR_pE, zT_pE, zL_pE, zn_pE, zE_pE, zI_pE, zQ_pE, zJ_pE, zR_pI, zT_pI, zL_pI, zn_pI, zE_pI, zI_pI, zQ_pI, zJ_pI, zR_pR, zT_pR, zL_pR, zn_pR, zE_pR, zI_pR, zQ_pR, zJ_pR, zR_pJ, zT_pJ, zL_pJ, zn_pJ, zE_pJ, zI_pJ, zQ_pJ, zJ_pJ, ne, oA, r706, oO, r300, oa, la, ni, gi, li, ea, hc, r302, oc, lc, ec, oW, r1002, oH, r200, o3, l3, nk, gk, lk, eK, q6, eq_false c6, q9, eq_false c9, o8, x1]
theorem c_loop (hv : vsOK vs) (hdg : vsDg vs) (hK : K ≤ 2000) {s : Nat} (hs : s < 4) {lim : Nat} (hlim : lim ≤ 10000) : ∀ (i j fuel q : Nat) (h : Hp) (own : Nat → Nat) (u : Nat → Nat → Nat) (v : Nat → Nat) (W : Wld), WdS vs K W → CW vs now h own u v W → j + i = lim → i < fuel → q ≤ 10000 → ∃ h1 own1 u1 v1, f_X10_sendAll_21 fuel 8 (shA s) (nI lim) (nI q - 1) (nI j) h = some h1 ∧ CW vs now h1 own1 u1 v1 (wdLoop vs now s lim i q W) ∧ acW h own u v h1 own1 u1 v1
  | i, j, 0, q, h, own, u, v, W, _, _, _, hf, _ => absurd hf (Nat.not_lt_zero _)
  | 0, j, fuel + 1, q, h, own, u, v, W, S, R, hj, hf, hq => by
    have c : nI lim ≤ nI j := (zi_le (by omega) (by omega)).mpr (by omega)
    refine ⟨h, own, u, v, ?_, R, acW.rf h own u v⟩
    simp only [f_X10_sendAll_21, o10, o00, bh, isO, inR, ck_true, bind_some9, Nat.reduceLeDiff, Nat.reduceEqDiff, and_self, and_true, true_and, false_and, and_false, not_false_eq_true, not_true_eq_false, or_self, or_false, false_or, if_true, if_false, reduceIte, zR_pE, zT_pE, zL_pE, zn_pE, zE_pE, zI_pE, zQ_pE, zJ_pE, zR_pI, zT_pI, zL_pI, zn_pI, zE_pI, zI_pI, zQ_pI, zJ_pI, zR_pR, zT_pR, zL_pR, zn_pR, zE_pR, zI_pR, zQ_pR, zJ_pR, zR_pJ, zT_pJ, zL_pJ, zn_pJ, zE_pJ, zI_pJ, zQ_pJ, zJ_pJ, c]
  | i + 1, j, fuel + 1, q, h, own, u, v, W, S, R, hj, hf, hq => by
    have c : (nI lim ≤ nI j) = False := eq_false (zi_le0 (by omega) (by omega) (by omega))
    have k := R.2.2 s hs
    have oA := k.1.1.1
    have wk := c_works k
    have w := R.1.1
    have eW : wdLoop vs now s lim (i + 1) q W = if shL (W s) = -1 then W else match (shO (W s)).find? (fun m => decide (q ≤ m.1)) with
      | none => W
      | some m => if lim ≤ m.1 then W else wdLoop vs now s lim i (m.1 + 1) (wdStep vs now s W m) := rfl
    rw [eW]
    by_cases cl : shL (W s) = -1
    · rw [if_pos cl] at wk ⊢
      refine ⟨h, own, u, v, ?_, R, acW.rf h own u v⟩
      simp only [f_X10_sendAll_21, o10, o00, bh, isO, inR, ck_true, bind_some9, Nat.reduceLeDiff, Nat.reduceEqDiff, and_self, and_true, true_and, false_and, and_false, not_false_eq_true, not_true_eq_false, or_self, or_false, false_or, if_true, if_false, reduceIte, zR_pE, zT_pE, zL_pE, zn_pE, zE_pE, zI_pE, zQ_pE, zJ_pE, zR_pI, zT_pI, zL_pI, zn_pI, zE_pI, zI_pI, zQ_pI, zJ_pI, zR_pR, zT_pR, zL_pR, zn_pR, zE_pR, zI_pR, zQ_pR, zJ_pR, zR_pJ, zT_pJ, zL_pJ, zn_pJ, zE_pJ, zI_pJ, zQ_pJ, zJ_pJ, c, oA, wk]
    · rw [if_neg cl] at wk ⊢
      obtain ⟨C, c1, c2⟩ := S s hs
      obtain ⟨z1, z2, z3, z4, z5, z6⟩ := cm_ok c1.1 c2 hK
      obtain ⟨l9, wv, hC9⟩ := c1.1.w cl
      have Cl : C.length ≤ 3920 := by rw [hC9]; exact (z4 l9 wv.1).2
      obtain ⟨a, b, cc, ob, -, v1, v2, vl⟩ := k.2.2.2.2.2.R w hs k.1.2.2.2.2
      have hO : ∀ m ∈ shO (W s), m.1 < 10000 := fun m hm => by
        have := (msg_ok hdg c1.1 hm).2.2.1
        omega
      have ol := oc_lt c1.1
      have fb := c_first (q := q) ob vl (by omega) (by omega) (fun m hm => by have := hO m hm; omega) (by omega)
      have r706 := k.1.1.2.2.2.2.2.2.2
      have o4 := k.1.2.2.2.2
      rcases find_at (fun m : Nat × Nat × Nat => decide (q ≤ m.1)) (shO (W s)) with ⟨f1, f2⟩ | ⟨x, m, f1, f2, f3, f4⟩
      · rw [f2]
        rw [f1] at fb
        have fb : f_X2_firstBehind (shA s + 4) (nI q - 1) h = some (-1, h) := fb
        have kk : ((-1 : Int32) = -1) = True := eq_true rfl
        refine ⟨h, own, u, v, ?_, R, acW.rf h own u v⟩
        simp only [f_X10_sendAll_21, f_X10_sendAll_68, o10, o00, bh, isO, inR, ck_true, bind_some9, Nat.reduceLeDiff, Nat.reduceEqDiff, and_self, and_true, true_and, false_and, and_false, not_false_eq_true, not_true_eq_false, or_self, or_false, false_or, if_true, if_false, reduceIte, zR_pE, zT_pE, zL_pE, zn_pE, zE_pE, zI_pE, zQ_pE, zJ_pE, zR_pI, zT_pI, zL_pI, zn_pI, zE_pI, zI_pI, zQ_pI, zJ_pI, zR_pR, zT_pR, zL_pR, zn_pR, zE_pR, zI_pR, zQ_pR, zJ_pR, zR_pJ, zT_pJ, zL_pJ, zn_pJ, zE_pJ, zI_pJ, zQ_pJ, zJ_pJ, c, oA, wk, r706, o4, fb, kk, show ((1 : Int32) = 0) = False from eq_false (by decide)]
      · rw [f3]
        rw [f1] at fb
        have fb : f_X2_firstBehind (shA s + 4) (nI q - 1) h = some (nI (0 + x), h) := fb
        rw [Nat.zero_add] at fb
        have hm : m ∈ shO (W s) := List.mem_of_getElem? f2
        have mb := hO m hm
        obtain ⟨m1, m2, m3, m4, m5⟩ := msg_ok hdg c1.1 hm
        have xL : x < (shO (W s)).length := (List.getElem?_eq_some_iff.mp f2).1
        have kx : (nI x = -1) = False := eq_false (zi_ne1 (by omega))
        have nx : (nI x).toNatClampNeg = x := zi_nat (by omega)
        have gx : ¬ nI x < 0 := zi_neg (by omega)
        have lx : ¬ 16 * v s ≤ x := by omega
        obtain ⟨⟨oO, r300, r301, r302⟩, ⟨oa, ob9, oc⟩, -, ⟨la, lb, lc⟩, -, eO⟩ := id ob
        obtain ⟨ea, eb, ec⟩ := eO x m f2
        have er := c_row k (n := m.2.1) (by omega)
        rw [if_pos m1] at er
        have step : f_X10_sendAll_21 (fuel + 1) 8 (shA s) (nI lim) (nI q - 1) (nI j) h = f_X10_sendAll_68 (f_X10_sendAll_21 fuel) (wfA s m.2.1) 8 (shA s) (nI lim) (nI j) (nI x) h := by
          simp only [f_X10_sendAll_21, o10, o00, bh, isO, inR, ck_true, bind_some9, Nat.reduceLeDiff, Nat.reduceEqDiff, and_self, and_true, true_and, false_and, and_false, not_false_eq_true, not_true_eq_false, or_self, or_false, false_or, if_true, if_false, reduceIte, zR_pE, zT_pE, zL_pE, zn_pE, zE_pE, zI_pE, zQ_pE, zJ_pE, zR_pI, zT_pI, zL_pI, zn_pI, zE_pI, zI_pI, zQ_pI, zJ_pI, zR_pR, zT_pR, zL_pR, zn_pR, zE_pR, zI_pR, zQ_pR, zJ_pR, zR_pJ, zT_pJ, zL_pJ, zn_pJ, zE_pJ, zI_pJ, zQ_pJ, zJ_pJ, c, oA, wk, r706, o4, fb, kx, r301, ob9, lb, nx, gx, lx, eb, er, show ((1 : Int32) = 0) = False from eq_false (by decide)]
        rw [step]
        simp only []
        by_cases cm : lim ≤ m.1
        · rw [if_pos cm]
          have hc : (nI m.1 < nI lim) = False := eq_false (fun z => absurd ((zi_lt (by omega) (by omega)).mp z) (by omega))
          have ne := wfA_ne s m.2.1
          refine ⟨h, own, u, v, ?_, R, acW.rf h own u v⟩
          simp only [f_X10_sendAll_68, o10, o00, bh, isO, inR, ck_true, bind_some9, Nat.reduceLeDiff, Nat.reduceEqDiff, and_self, and_true, true_and, false_and, and_false, not_false_eq_true, not_true_eq_false, or_self, or_false, false_or, if_true, if_false, reduceIte, zR_pE, zT_pE, zL_pE, zn_pE, zE_pE, zI_pE, zQ_pE, zJ_pE, zR_pI, zT_pI, zL_pI, zn_pI, zE_pI, zI_pI, zQ_pI, zJ_pI, zR_pR, zT_pR, zL_pR, zn_pR, zE_pR, zI_pR, zQ_pR, zJ_pR, zR_pJ, zT_pJ, zL_pJ, zn_pJ, zE_pJ, zI_pJ, zQ_pJ, zJ_pJ, ne, oA, r706, o4, r300, oa, la, nx, gx, lx, ea, hc]
        · rw [if_neg cm]
          obtain ⟨h1, own1, u1, v1', x1, R1, A1⟩ := c_send (K21 := f_X10_sendAll_21 fuel) (l4 := nI j) hv hdg hK S R hs cl hm ob vl (by omega) f2 (by omega : lim < 1000000) (by omega) (by omega)
          rw [x1]
          have G := wdSend_G hv now (W := W) (s := s) (n := m.2.1) (k := m.2.2) cl m1 (fun q => by
            obtain ⟨d, d1, d2⟩ := m5 q
            rw [d2, zi_nat (by omega)]; exact d1)
          have S1 := G.on S
          have G2 := wdStep_G hv hdg now hs (by omega : K ≤ 10000) S cl hm
          have S2 := G2.on S
          have pm : nI m.1 = nI (m.1 + 1) - 1 := (zi_sub (a := m.1 + 1) (b := 1) (by omega)).symm
          have k1 := R1.2.2 s hs
          have oA1 := k1.1.1.1
          have wk1 := c_works k1
          by_cases cs : (wdSend vs now W s m.2.1 m.2.2).1 = true ∧ shL ((wdSend vs now W s m.2.1 m.2.2).2 s) ≠ -1
          · have eS : wdStep vs now s W m = upf (wdSend vs now W s m.2.1 m.2.2).2 s (stl vs now (shForget ((wdSend vs now W s m.2.1 m.2.2).2 s) m.1)) := by unfold wdStep; rw [if_pos cs]
            obtain ⟨E, e1, e2⟩ := G s hs C c1
            obtain ⟨E9, e19, e29⟩ := S1 s hs
            have still : m ∈ shO ((wdSend vs now W s m.2.1 m.2.2).2 s) := by
              rw [e1.1.2.1.2.1]
              refine noG_keep (e2.2.2.2.2.2.1 rfl (works_upX c1.1.1 cl)).1 ?_
              rw [← c1.1.2.1.2.1]; exact hm
            have hO1 : ∀ m9 ∈ shO ((wdSend vs now W s m.2.1 m.2.2).2 s), m9.1 < 1000000 := fun m9 hm9 => by
              have a1 := (msg_ok hdg e19.1 hm9).2.2.1
              obtain ⟨y1, y2, y3, y4, y5, y6⟩ := cm_ok e19.1 e29 hK
              obtain ⟨l8, wv8, hC8⟩ := e19.1.w cs.2
              have : E9.length ≤ 3920 := by rw [hC8]; exact (y4 l8 wv8.1).2
              omega
            obtain ⟨h2, y1, dn⟩ := c_forgetS hv hs hK R1.1 k1 e19.1 e29 cs.2 (p := m.1) ⟨m, still, rfl⟩ (by omega) hO1
            obtain ⟨oA2, h3, own3, u3, v3, y2, R3, A3⟩ := R1.don hs dn
            rw [← eS] at R3
            obtain ⟨h4, own4, u4, v4, w1, R4, A4⟩ := c_loop hv hdg hK hs hlim i (j + 1) fuel (m.1 + 1) h3 own3 u3 v3 _ S2 R3 (by omega) (by omega) (by omega)
            refine ⟨h4, own4, u4, v4, ?_, R4, (A1.tr A3).tr A4⟩
            rw [← w1, ← pm, cs.1, if_pos rfl]
            rw [if_neg cs.2] at wk1
            simp only [f_X10_sendAll_171, f_X10_sendAll_194, o10, o00, bh, isO, inR, ck_true, bind_some9, Nat.reduceLeDiff, Nat.reduceEqDiff, and_self, and_true, true_and, false_and, and_false, not_false_eq_true, not_true_eq_false, or_self, or_false, false_or, if_true, if_false, reduceIte, zR_pE, zT_pE, zL_pE, zn_pE, zE_pE, zI_pE, zQ_pE, zJ_pE, zR_pI, zT_pI, zL_pI, zn_pI, zE_pI, zI_pI, zQ_pI, zJ_pI, zR_pR, zT_pR, zL_pR, zn_pR, zE_pR, zI_pR, zQ_pR, zJ_pR, zR_pJ, zT_pJ, zL_pJ, zn_pJ, zE_pJ, zI_pJ, zQ_pJ, zJ_pJ, oA1, wk1, y1, oA2, y2, zi_one, show ((1 : Int32) = 0) = False from eq_false (by decide)]
          · have eS : wdStep vs now s W m = (wdSend vs now W s m.2.1 m.2.2).2 := by unfold wdStep; rw [if_neg cs]
            rw [← eS] at R1
            obtain ⟨h4, own4, u4, v4, w1, R4, A4⟩ := c_loop hv hdg hK hs hlim i (j + 1) fuel (m.1 + 1) h1 own1 u1 v1' _ S2 R1 (by omega) (by omega) (by omega)
            refine ⟨h4, own4, u4, v4, ?_, R4, A1.tr A4⟩
            rw [← w1, ← pm]
            cases cb : (wdSend vs now W s m.2.1 m.2.2).1 with
            | false =>
              rw [if_neg (fun z => Bool.noConfusion z)]
              simp only [f_X10_sendAll_171, f_X10_sendAll_194, o10, o00, bh, isO, inR, ck_true, bind_some9, Nat.reduceLeDiff, Nat.reduceEqDiff, and_self, and_true, true_and, false_and, and_false, not_false_eq_true, not_true_eq_false, or_self, or_false, false_or, if_true, if_false, reduceIte, zR_pE, zT_pE, zL_pE, zn_pE, zE_pE, zI_pE, zQ_pE, zJ_pE, zR_pI, zT_pI, zL_pI, zn_pI, zE_pI, zI_pI, zQ_pI, zJ_pI, zR_pR, zT_pR, zL_pR, zn_pR, zE_pR, zI_pR, zQ_pR, zJ_pR, zR_pJ, zT_pJ, zL_pJ, zn_pJ, zE_pJ, zI_pJ, zQ_pJ, zJ_pJ, zi_one]
            | true =>
              rw [if_pos rfl]
              have : shL ((wdSend vs now W s m.2.1 m.2.2).2 s) = -1 := by
                by_cases z : shL ((wdSend vs now W s m.2.1 m.2.2).2 s) = -1
                · exact z
                · exact absurd ⟨cb, z⟩ cs
              rw [if_pos this] at wk1
              simp only [f_X10_sendAll_171, f_X10_sendAll_194, o10, o00, bh, isO, inR, ck_true, bind_some9, Nat.reduceLeDiff, Nat.reduceEqDiff, and_self, and_true, true_and, false_and, and_false, not_false_eq_true, not_true_eq_false, or_self, or_false, false_or, if_true, if_false, reduceIte, zR_pE, zT_pE, zL_pE, zn_pE, zE_pE, zI_pE, zQ_pE, zJ_pE, zR_pI, zT_pI, zL_pI, zn_pI, zE_pI, zI_pI, zQ_pI, zJ_pI, zR_pR, zT_pR, zL_pR, zn_pR, zE_pR, zI_pR, zQ_pR, zJ_pR, zR_pJ, zT_pJ, zL_pJ, zn_pJ, zE_pJ, zI_pJ, zQ_pJ, zJ_pJ, oA1, wk1, zi_one, show ((1 : Int32) = 0) = False from eq_false (by decide)]
theorem c_sendAll {h : Hp} {own : Nat → Nat} {u : Nat → Nat → Nat} {v : Nat → Nat} {W : Wld} (hv : vsOK vs) (hdg : vsDg vs) (hK : K ≤ 2000) (S : WdS vs K W) (R : CW vs now h own u v W) {s : Nat} (hs : s < 4) : ∃ h1 own1 u1 v1, f_X10_sendAll 8 (shA s) h = some h1 ∧ CW vs now h1 own1 u1 v1 (wdAll vs now s W) ∧ acW h own u v h1 own1 u1 v1 := by
  rw [wdAll_loop hv hdg now hs (by omega : K ≤ 10000) S]
  have k := R.2.2 s hs
  have oA := k.1.1.1
  have wk := c_works k
  obtain ⟨C, c1, c2⟩ := S s hs
  obtain ⟨z1, z2, z3, z4, z5, z6⟩ := cm_ok c1.1 c2 hK
  by_cases cl : shL (W s) = -1
  · rw [if_pos cl] at wk
    have e1 : shRecs (W s) = 0 := by unfold shRecs; rw [if_pos cl]
    rw [e1]
    obtain ⟨h1, own1, u1, v1, x1, x2, x3⟩ := c_loop (now := now) hv hdg hK hs (lim := 0) (by omega) 0 0 fz 0 h own u v W S R (by omega) (fz_big (by omega)) (by omega)
    have x1 : f_X10_sendAll_21 fz 8 (shA s) 0 (-1) 0 h = some h1 := x1
    refine ⟨h1, own1, u1, v1, ?_, x2, x3⟩
    simp only [f_X10_sendAll, f_X10_sendAll_15, o10, o00, bh, isO, inR, ck_true, bind_some9, Nat.reduceLeDiff, Nat.reduceEqDiff, and_self, and_true, true_and, false_and, and_false, not_false_eq_true, not_true_eq_false, or_self, or_false, false_or, if_true, if_false, reduceIte, zR_pE, zT_pE, zL_pE, zn_pE, zE_pE, zI_pE, zQ_pE, zJ_pE, zR_pI, zT_pI, zL_pI, zn_pI, zE_pI, zI_pI, zQ_pI, zJ_pI, zR_pR, zT_pR, zL_pR, zn_pR, zE_pR, zI_pR, zQ_pR, zJ_pR, zR_pJ, zT_pJ, zL_pJ, zn_pJ, zE_pJ, zI_pJ, zQ_pJ, zJ_pJ, oA, wk, x1]
  · rw [if_neg cl] at wk
    obtain ⟨l, hl, el⟩ := z2.resolve_left cl
    have nl : (nI l).toNatClampNeg = l := zi_nat (by omega)
    have er := c_records k el (by omega) (by have := (z4 l hl).2; omega)
    have le : shRecs (W s) ≤ 10000 := by
      unfold shRecs shLog
      rw [if_neg cl, el, nl]
      have := (z4 l hl).2
      omega
    obtain ⟨h1, own1, u1, v1, x1, x2, x3⟩ := c_loop (now := now) hv hdg hK hs le (shRecs (W s)) 0 fz 0 h own u v W S R (by omega) (fz_big (by omega)) (by omega)
    have x1 : f_X10_sendAll_21 fz 8 (shA s) (nI (shRecs (W s))) (-1) 0 h = some h1 := x1
    refine ⟨h1, own1, u1, v1, ?_, x2, x3⟩
    simp only [f_X10_sendAll, f_X10_sendAll_15, o10, o00, bh, isO, inR, ck_true, bind_some9, Nat.reduceLeDiff, Nat.reduceEqDiff, and_self, and_true, true_and, false_and, and_false, not_false_eq_true, not_true_eq_false, or_self, or_false, false_or, if_true, if_false, reduceIte, zR_pE, zT_pE, zL_pE, zn_pE, zE_pE, zI_pE, zQ_pE, zJ_pE, zR_pI, zT_pI, zL_pI, zn_pI, zE_pI, zI_pI, zQ_pI, zJ_pI, zR_pR, zT_pR, zL_pR, zn_pR, zE_pR, zI_pR, zQ_pR, zJ_pR, zR_pJ, zT_pJ, zL_pJ, zn_pJ, zE_pJ, zI_pJ, zQ_pJ, zJ_pJ, oA, wk, er, x1, show ((1 : Int32) = 0) = False from eq_false (by decide)]
end Calls
/-! TIME OF THE WHOLE, IN THE CLASS -/
theorem lg_zero {a b : Nat} (ha : a < 1000000) (hb : b < 1000000) : (lg_cmp (Int64.ofNat a) (Int64.ofNat b) = 0) = (a = b) := by
  have ea : (Int64.ofNat a).toInt = a := Int64.toInt_ofNat_of_lt (by omega)
  have eb : (Int64.ofNat b).toInt = b := Int64.toInt_ofNat_of_lt (by omega)
  unfold lg_cmp
  by_cases c : a = b
  · rw [c]
    have : ¬ Int64.ofNat b > Int64.ofNat b := fun z => by
      have := Int64.lt_iff_toInt_lt.mp z
      omega
    rw [if_neg this, if_pos rfl]
    exact propext ⟨fun _ => rfl, fun _ => rfl⟩
  · have ne : Int64.ofNat a ≠ Int64.ofNat b := fun z => by
      rw [z, eb] at ea
      omega
    by_cases c2 : Int64.ofNat a > Int64.ofNat b
    · rw [if_pos c2]
      exact propext ⟨fun z => absurd z (by decide), fun z => absurd z c⟩
    · rw [if_neg c2, if_neg ne]
      exact propext ⟨fun z => absurd z (by decide), fun z => absurd z c⟩
def sumQ (W : Wld) (s : Nat) : Nat → Nat
  | 0 => 0
  | m + 1 => shQ (W s) + sumQ W (s + 1) m
section Calls
variable {vs : Nat → List Prg} {now : Int32} {K : Nat}
theorem c_tried_go {h : Hp} {own : Nat → Nat} {u : Nat → Nat → Nat} {v : Nat → Nat} {W : Wld} (R : CW vs now h own u v W) : ∀ (m s fuel a : Nat), s + m = 4 → m < fuel → f_X10_recordsTried_4 fuel 8 (Int64.ofNat a) (nI s) h = some (Int64.ofNat (a + sumQ W s m), h)
  | m, s, 0, a, _, hf => absurd hf (Nat.not_lt_zero _)
  | 0, s, fuel + 1, a, hs, hf => by
    have e : s = 4 := by omega
    have c : (4 : Int32) ≤ nI 4 := by decide
    rw [e]
    simp only [f_X10_recordsTried_4, o10, o00, bh, isO, inR, ck_true, bind_some9, Nat.reduceLeDiff, Nat.reduceEqDiff, and_self, and_true, true_and, false_and, and_false, not_false_eq_true, not_true_eq_false, or_self, or_false, false_or, if_true, if_false, reduceIte, zR_pE, zT_pE, zL_pE, zn_pE, zE_pE, zI_pE, zQ_pE, zJ_pE, zR_pI, zT_pI, zL_pI, zn_pI, zE_pI, zI_pI, zQ_pI, zJ_pI, zR_pR, zT_pR, zL_pR, zn_pR, zE_pR, zI_pR, zQ_pR, zJ_pR, zR_pJ, zT_pJ, zL_pJ, zn_pJ, zE_pJ, zI_pJ, zQ_pJ, zJ_pJ, c]
    rfl
  | m + 1, s, fuel + 1, a, hs, hf => by
    have c : ¬ (4 : Int32) ≤ nI s := zi_le0 (a := 4) (by omega) (by omega) (by omega)
    obtain ⟨⟨o8, -, r1, -, r3⟩, o13, l13, q13⟩ := id R.2.1
    have k := R.2.2 s (by omega)
    have oA := k.1.1.1
    have eJ := k.2.1.2.2.2.2
    have qs := q13 s (by omega)
    have ns : (nI s).toNatClampNeg = s := zi_nat (by omega)
    have gs : ¬ nI s < 0 := zi_neg (by omega)
    have ls : ¬ 4 ≤ s := by omega
    have ih := c_tried_go R m (s + 1) fuel (a + shQ (W s)) (by omega) (by omega)
    have e1 : Int64.ofNat a + Int64.ofNat (shQ (W s)) = Int64.ofNat (a + shQ (W s)) := (Int64.ofNat_add _ _).symm
    have e2 : a + sumQ W s (m + 1) = a + shQ (W s) + sumQ W (s + 1) m := by
      show a + (shQ (W s) + sumQ W (s + 1) m) = _
      omega
    rw [e2, ← ih]
    simp only [f_X10_recordsTried_4, o10, o00, bh, isO, inR, ck_true, bind_some9, Nat.reduceLeDiff, Nat.reduceEqDiff, and_self, and_true, true_and, false_and, and_false, not_false_eq_true, not_true_eq_false, or_self, or_false, false_or, if_true, if_false, reduceIte, zR_pE, zT_pE, zL_pE, zn_pE, zE_pE, zI_pE, zQ_pE, zJ_pE, zR_pI, zT_pI, zL_pI, zn_pI, zE_pI, zI_pI, zQ_pI, zJ_pI, zR_pR, zT_pR, zL_pR, zn_pR, zE_pR, zI_pR, zQ_pR, zJ_pR, zR_pJ, zT_pJ, zL_pJ, zn_pJ, zE_pJ, zI_pJ, zQ_pJ, zJ_pJ, c, o8, r3, o13, l13, ns, gs, ls, qs, oA, eJ, e1, zi_one]
theorem c_tried {h : Hp} {own : Nat → Nat} {u : Nat → Nat → Nat} {v : Nat → Nat} {W : Wld} (R : CW vs now h own u v W) : f_X10_recordsTried 8 h = some (Int64.ofNat (totQ W), h) := by
  have := c_tried_go R 4 0 fz 0 (by omega) (fz_big (by omega))
  have e : 0 + sumQ W 0 4 = totQ W := by
    show 0 + (shQ (W 0) + (shQ (W 1) + (shQ (W 2) + (shQ (W 3) + 0)))) = shQ (W 0) + shQ (W 1) + shQ (W 2) + shQ (W 3)
    omega
  rw [e] at this
  exact this
/-- no deadline of the rows before w comes up to x -/
def noDl (W : Wld) (w x : Nat) : Prop := ∀ y, y < w → y / 4 < shN (W (y % 4)) → shL (W (y % 4)) ≠ -1 → (wkP (flW (shF (W (y % 4)) (y / 4))) = 1 → ∃ a, a < 2147483648 ∧ x < a ∧ wkA (flW (shF (W (y % 4)) (y / 4))) = nI a) ∧ (wkP (flW (shF (W (y % 4)) (y / 4))) = 0 → 0 < flK (shF (W (y % 4)) (y / 4)) → ∃ a, a < 2147483648 ∧ x < a ∧ (flT (shF (W (y % 4)) (y / 4))).2.2.2.2.2 = nI a)
theorem noDl.less {W : Wld} {w x x1 : Nat} (h : noDl W w x) (hx : x1 ≤ x) : noDl W w x1 := fun y h1 h2 h3 => by
  obtain ⟨a, b⟩ := h y h1 h2 h3
  refine ⟨fun z => ?_, fun z1 z2 => ?_⟩
  · obtain ⟨c, c1, c2, c3⟩ := a z
    exact ⟨c, c1, by omega, c3⟩
  · obtain ⟨c, c1, c2, c3⟩ := b z1 z2
    exact ⟨c, c1, by omega, c3⟩
theorem noDl.snoc {W : Wld} {w x : Nat} (h : noDl W w x) (hw : w / 4 < shN (W (w % 4)) → shL (W (w % 4)) ≠ -1 → (wkP (flW (shF (W (w % 4)) (w / 4))) = 1 → ∃ a, a < 2147483648 ∧ x < a ∧ wkA (flW (shF (W (w % 4)) (w / 4))) = nI a) ∧ (wkP (flW (shF (W (w % 4)) (w / 4))) = 0 → 0 < flK (shF (W (w % 4)) (w / 4)) → ∃ a, a < 2147483648 ∧ x < a ∧ (flT (shF (W (w % 4)) (w / 4))).2.2.2.2.2 = nI a)) : noDl W (w + 1) x := fun y h1 h2 h3 => by
  by_cases c : y = w
  · rw [c] at h2 h3 ⊢
    exact hw h2 h3
  · exact h y (by omega) h2 h3
theorem c_quiet_go {h : Hp} {own : Nat → Nat} {u : Nat → Nat → Nat} {v : Nat → Nat} {W : Wld} (hv : vsOK vs) (S : WdS vs K W) {c : Nat} (hc : c < 2000000) (R : CW vs (nI c) h own u v W) (st : ∀ s, s < 4 → still (nI c) (W s)) : ∀ (m w fuel x : Nat), w + m = 64 → m < fuel → c ≤ x → x < 2000000 → noDl W w x → ∃ y, c ≤ y ∧ y ≤ x ∧ f_X10_lastQuietTick_4 fuel 8 (nI x) (nI w) h = some (nI y, h) ∧ noDl W 64 y
  | m, w, 0, x, _, hf, _, _, _ => absurd hf (Nat.not_lt_zero _)
  | 0, w, fuel + 1, x, hw, hf, hx, hx2, nd => by
    have e : w = 64 := by omega
    have c0 : (64 : Int32) ≤ nI 64 := by decide
    obtain ⟨⟨o8, -, r1, -, r3⟩, -⟩ := id R.2.1
    obtain ⟨-, -, -, oC, eC⟩ := id R.1
    have lt : (nI x < nI c) = False := eq_false (fun z => absurd ((zi_lt (by omega) (by omega)).mp z) (by omega))
    rw [e] at nd ⊢
    refine ⟨x, hx, Nat.le_refl _, ?_, nd⟩
    simp only [f_X10_lastQuietTick_4, o10, o00, bh, isO, inR, ck_true, bind_some9, Nat.reduceLeDiff, Nat.reduceEqDiff, and_self, and_true, true_and, false_and, and_false, not_false_eq_true, not_true_eq_false, or_self, or_false, false_or, if_true, if_false, reduceIte, zR_pE, zT_pE, zL_pE, zn_pE, zE_pE, zI_pE, zQ_pE, zJ_pE, zR_pI, zT_pI, zL_pI, zn_pI, zE_pI, zI_pI, zQ_pI, zJ_pI, zR_pR, zT_pR, zL_pR, zn_pR, zE_pR, zI_pR, zQ_pR, zJ_pR, zR_pJ, zT_pJ, zL_pJ, zn_pJ, zE_pJ, zI_pJ, zQ_pJ, zJ_pJ, c0, o8, r1, oC, eC, lt]
  | m + 1, w, fuel + 1, x, hw, hf, hx, hx2, nd => by
    have c0 : ¬ (64 : Int32) ≤ nI w := zi_le0 (a := 64) (by omega) (by omega) (by omega)
    obtain ⟨⟨o8, -, r1, -, r3⟩, o13, l13, q13⟩ := id R.2.1
    have ef := c_find R (nI w)
    rw [flw_nat W (by omega)] at ef
    have hs : w % 4 < 4 := by omega
    by_cases d : w / 4 < shN (W (w % 4))
    · rw [if_pos d] at ef
      have ef : f_X10_find 8 (nI w) h = some (wfA (w % 4) (w / 4), h) := ef
      have k := R.2.2 (w % 4) hs
      obtain ⟨C, hS, hY⟩ := S (w % 4) hs
      have wf : wfC h (wfA (w % 4) (w / 4)) (w % 4 + 4 * (w / 4)) (shF (W (w % 4)) (w / 4)) := k.2.2.2.1 _ (by omega)
      have ne := wfA_ne (w % 4) (w / 4)
      have oW := wf.1.1.1
      have r1003 := wf.1.1.2.2.2.2
      have oT := wf.1.2.2.2.2.2
      obtain ⟨wV, wS, wN, wP, wA, -⟩ := wf.2.2.1
      obtain ⟨t0, t1, t2, t3, t4, t5⟩ := wf.2.2.2
      have hP : wkP (flW (shF (W (w % 4)) (w / 4))) ≤ 5 := (row_ok hv hS.1 d).2.2.2.2.1.2.2.2.2.1
      have i1 : (nI (wkP (flW (shF (W (w % 4)) (w / 4)))) = 1) = (wkP (flW (shF (W (w % 4)) (w / 4))) = 1) := propext (zi_eq (b := 1) (by omega) (by omega))
      have i0 : (nI (wkP (flW (shF (W (w % 4)) (w / 4)))) = 0) = (wkP (flW (shF (W (w % 4)) (w / 4))) = 0) := propext (zi_eq (b := 0) (by omega) (by omega))
      obtain ⟨md, dv, nm, gm, lm⟩ := c_md (a := w) (by omega)
      have qm := q13 (w % 4) hs
      have oA := k.1.1.1
      have wk := c_works k
      have k10 : ((1 : Int32) = 0) = False := eq_false (by decide)
      by_cases cl : shL (W (w % 4)) = -1
      · rw [if_pos cl] at wk
        obtain ⟨y, y1, y2, y3, y4⟩ := c_quiet_go hv S hc R st m (w + 1) fuel x (by omega) (by omega) hx hx2 (nd.snoc (fun _ z => absurd cl z))
        refine ⟨y, y1, y2, ?_, y4⟩
        rw [← y3]
        simp only [f_X10_lastQuietTick_4, f_X10_lastQuietTick_56, o10, o00, bh, isO, inR, ck_true, bind_some9, Nat.reduceLeDiff, Nat.reduceEqDiff, and_self, and_true, true_and, false_and, and_false, not_false_eq_true, not_true_eq_false, or_self, or_false, false_or, if_true, if_false, reduceIte, zR_pE, zT_pE, zL_pE, zn_pE, zE_pE, zI_pE, zQ_pE, zJ_pE, zR_pI, zT_pI, zL_pI, zn_pI, zE_pI, zI_pI, zQ_pI, zJ_pI, zR_pR, zT_pR, zL_pR, zn_pR, zE_pR, zI_pR, zQ_pR, zJ_pR, zR_pJ, zT_pJ, zL_pJ, zn_pJ, zE_pJ, zI_pJ, zQ_pJ, zJ_pJ, c0, o8, ef, ne, r3, o13, l13, dv, md, nm, gm, lm, qm, oA, wk, zi_one]
      · rw [if_neg cl] at wk
        obtain ⟨nF, nL⟩ := st (w % 4) hs cl (w / 4) d
        have go : ∀ D : Int32, (∃ a, a < 2147483648 ∧ c < a ∧ D = nI a) → ∃ x1, c ≤ x1 ∧ x1 ≤ x ∧ (if D - (1 : Int32) < nI x then D - 1 else nI x) = nI x1 ∧ ∃ a, a < 2147483648 ∧ x1 < a ∧ D = nI a := fun D hD => by
          obtain ⟨a, a1, a2, a3⟩ := hD
          have : D - (1 : Int32) = nI (a - 1) := by rw [a3]; exact zi_sub (b := 1) (by omega)
          rw [this]
          by_cases z : a - 1 < x
          · exact ⟨a - 1, by omega, by omega, if_pos ((zi_lt (by omega) (by omega)).mpr z), a, a1, by omega, a3⟩
          · exact ⟨x, hx, Nat.le_refl _, if_neg (fun y => z ((zi_lt (by omega) (by omega)).mp y)), a, a1, by omega, a3⟩
        have gt : ∀ D : Int32, ¬ D ≤ nI c → ∃ a, a < 2147483648 ∧ c < a ∧ D = nI a := fun D z => by
          have z1 : nI c < D := Int32.not_le.mp z
          have z2 : ¬ D < 0 := fun y => absurd (Int32.lt_trans z1 y) (zi_neg (by omega))
          obtain ⟨a, a1, a2⟩ := zi_of z2
          rw [a2] at z1
          exact ⟨a, a1, (zi_lt (by omega) a1).mp z1, a2⟩
        by_cases p1 : wkP (flW (shF (W (w % 4)) (w / 4))) = 1
        · obtain ⟨x1, g1, g2, g3, g4⟩ := go _ (gt (wkA (flW (shF (W (w % 4)) (w / 4)))) (fun z => nF ⟨p1, z⟩))
          obtain ⟨y, y1, y2, y3, y4⟩ := c_quiet_go hv S hc R st m (w + 1) fuel x1 (by omega) (by omega) g1 (by omega) ((nd.less g2).snoc (fun _ _ => ⟨fun _ => g4, fun z => by omega⟩))
          refine ⟨y, y1, by omega, ?_, y4⟩
          rw [← y3]
          have wA := wA (Or.inl p1)
          have hd : f_X9_hasDeadline (wfA (w % 4) (w / 4)) h = some (1, h) := by
            simp only [f_X9_hasDeadline, o10, o00, bh, isO, inR, ck_true, bind_some9, Nat.reduceLeDiff, Nat.reduceEqDiff, and_self, and_true, true_and, false_and, and_false, not_false_eq_true, not_true_eq_false, or_self, or_false, false_or, if_true, if_false, reduceIte, zR_pE, zT_pE, zL_pE, zn_pE, zE_pE, zI_pE, zQ_pE, zJ_pE, zR_pI, zT_pI, zL_pI, zn_pI, zE_pI, zI_pI, zQ_pI, zJ_pI, zR_pR, zT_pR, zL_pR, zn_pR, zE_pR, zI_pR, zQ_pR, zJ_pR, zR_pJ, zT_pJ, zL_pJ, zn_pJ, zE_pJ, zI_pJ, zQ_pJ, zJ_pJ, oW, wP, i1, eq_true p1]
          have dl : f_X9_deadline (wfA (w % 4) (w / 4)) h = some (wkA (flW (shF (W (w % 4)) (w / 4))), h) := by
            simp only [f_X9_deadline, o10, o00, bh, isO, inR, ck_true, bind_some9, Nat.reduceLeDiff, Nat.reduceEqDiff, and_self, and_true, true_and, false_and, and_false, not_false_eq_true, not_true_eq_false, or_self, or_false, false_or, if_true, if_false, reduceIte, zR_pE, zT_pE, zL_pE, zn_pE, zE_pE, zI_pE, zQ_pE, zJ_pE, zR_pI, zT_pI, zL_pI, zn_pI, zE_pI, zI_pI, zQ_pI, zJ_pI, zR_pR, zT_pR, zL_pR, zn_pR, zE_pR, zI_pR, zQ_pR, zJ_pR, zR_pJ, zT_pJ, zL_pJ, zn_pJ, zE_pJ, zI_pJ, zQ_pJ, zJ_pJ, oW, wP, i1, eq_true p1, wA]
          simp only [f_X10_lastQuietTick_4, f_X10_lastQuietTick_56, o10, o00, bh, isO, inR, ck_true, bind_some9, Nat.reduceLeDiff, Nat.reduceEqDiff, and_self, and_true, true_and, false_and, and_false, not_false_eq_true, not_true_eq_false, or_self, or_false, false_or, if_true, if_false, reduceIte, zR_pE, zT_pE, zL_pE, zn_pE, zE_pE, zI_pE, zQ_pE, zJ_pE, zR_pI, zT_pI, zL_pI, zn_pI, zE_pI, zI_pI, zQ_pI, zJ_pI, zR_pR, zT_pR, zL_pR, zn_pR, zE_pR, zI_pR, zQ_pR, zJ_pR, zR_pJ, zT_pJ, zL_pJ, zn_pJ, zE_pJ, zI_pJ, zQ_pJ, zJ_pJ, c0, o8, ef, ne, r3, o13, l13, dv, md, nm, gm, lm, qm, oA, wk, k10, oW, hd, dl, g3, zi_one]
        · by_cases p0 : wkP (flW (shF (W (w % 4)) (w / 4))) = 0
          · by_cases pk : 0 < flK (shF (W (w % 4)) (w / 4))
            · obtain ⟨x1, g1, g2, g3, g4⟩ := go _ (gt (flT (shF (W (w % 4)) (w / 4))).2.2.2.2.2 (fun z => nL ⟨p0, pk, z⟩))
              obtain ⟨y, y1, y2, y3, y4⟩ := c_quiet_go hv S hc R st m (w + 1) fuel x1 (by omega) (by omega) g1 (by omega) ((nd.less g2).snoc (fun _ _ => ⟨fun z => absurd z p1, fun _ _ => g4⟩))
              refine ⟨y, y1, by omega, ?_, y4⟩
              rw [← y3]
              have dk : (flK (shF (W (w % 4)) (w / 4)) ≤ 0) = False := eq_false (Int32.not_le.mpr pk)
              have hd : f_X9_hasDeadline (wfA (w % 4) (w / 4)) h = some (1, h) := by
                simp only [f_X9_hasDeadline, o10, o00, bh, isO, inR, ck_true, bind_some9, Nat.reduceLeDiff, Nat.reduceEqDiff, and_self, and_true, true_and, false_and, and_false, not_false_eq_true, not_true_eq_false, or_self, or_false, false_or, if_true, if_false, reduceIte, zR_pE, zT_pE, zL_pE, zn_pE, zE_pE, zI_pE, zQ_pE, zJ_pE, zR_pI, zT_pI, zL_pI, zn_pI, zE_pI, zI_pI, zQ_pI, zJ_pI, zR_pR, zT_pR, zL_pR, zn_pR, zE_pR, zI_pR, zQ_pR, zJ_pR, zR_pJ, zT_pJ, zL_pJ, zn_pJ, zE_pJ, zI_pJ, zQ_pJ, zJ_pJ, oW, wP, i1, eq_false p1, i0, eq_true p0, r1003, oT, t4, dk]
              have dl : f_X9_deadline (wfA (w % 4) (w / 4)) h = some ((flT (shF (W (w % 4)) (w / 4))).2.2.2.2.2, h) := by
                simp only [f_X9_deadline, o10, o00, bh, isO, inR, ck_true, bind_some9, Nat.reduceLeDiff, Nat.reduceEqDiff, and_self, and_true, true_and, false_and, and_false, not_false_eq_true, not_true_eq_false, or_self, or_false, false_or, if_true, if_false, reduceIte, zR_pE, zT_pE, zL_pE, zn_pE, zE_pE, zI_pE, zQ_pE, zJ_pE, zR_pI, zT_pI, zL_pI, zn_pI, zE_pI, zI_pI, zQ_pI, zJ_pI, zR_pR, zT_pR, zL_pR, zn_pR, zE_pR, zI_pR, zQ_pR, zJ_pR, zR_pJ, zT_pJ, zL_pJ, zn_pJ, zE_pJ, zI_pJ, zQ_pJ, zJ_pJ, oW, wP, i1, eq_false p1, r1003, oT, t5]
              simp only [f_X10_lastQuietTick_4, f_X10_lastQuietTick_56, o10, o00, bh, isO, inR, ck_true, bind_some9, Nat.reduceLeDiff, Nat.reduceEqDiff, and_self, and_true, true_and, false_and, and_false, not_false_eq_true, not_true_eq_false, or_self, or_false, false_or, if_true, if_false, reduceIte, zR_pE, zT_pE, zL_pE, zn_pE, zE_pE, zI_pE, zQ_pE, zJ_pE, zR_pI, zT_pI, zL_pI, zn_pI, zE_pI, zI_pI, zQ_pI, zJ_pI, zR_pR, zT_pR, zL_pR, zn_pR, zE_pR, zI_pR, zQ_pR, zJ_pR, zR_pJ, zT_pJ, zL_pJ, zn_pJ, zE_pJ, zI_pJ, zQ_pJ, zJ_pJ, c0, o8, ef, ne, r3, o13, l13, dv, md, nm, gm, lm, qm, oA, wk, k10, oW, hd, dl, g3, zi_one]
            · obtain ⟨y, y1, y2, y3, y4⟩ := c_quiet_go hv S hc R st m (w + 1) fuel x (by omega) (by omega) hx hx2 (nd.snoc (fun _ _ => ⟨fun z => absurd z p1, fun _ z => absurd z pk⟩))
              refine ⟨y, y1, y2, ?_, y4⟩
              rw [← y3]
              have dk : (flK (shF (W (w % 4)) (w / 4)) ≤ 0) = True := eq_true (Int32.not_lt.mp pk)
              have hd : f_X9_hasDeadline (wfA (w % 4) (w / 4)) h = some (0, h) := by
                simp only [f_X9_hasDeadline, o10, o00, bh, isO, inR, ck_true, bind_some9, Nat.reduceLeDiff, Nat.reduceEqDiff, and_self, and_true, true_and, false_and, and_false, not_false_eq_true, not_true_eq_false, or_self, or_false, false_or, if_true, if_false, reduceIte, zR_pE, zT_pE, zL_pE, zn_pE, zE_pE, zI_pE, zQ_pE, zJ_pE, zR_pI, zT_pI, zL_pI, zn_pI, zE_pI, zI_pI, zQ_pI, zJ_pI, zR_pR, zT_pR, zL_pR, zn_pR, zE_pR, zI_pR, zQ_pR, zJ_pR, zR_pJ, zT_pJ, zL_pJ, zn_pJ, zE_pJ, zI_pJ, zQ_pJ, zJ_pJ, oW, wP, i1, eq_false p1, i0, eq_true p0, r1003, oT, t4, dk]
              simp only [f_X10_lastQuietTick_4, f_X10_lastQuietTick_56, o10, o00, bh, isO, inR, ck_true, bind_some9, Nat.reduceLeDiff, Nat.reduceEqDiff, and_self, and_true, true_and, false_and, and_false, not_false_eq_true, not_true_eq_false, or_self, or_false, false_or, if_true, if_false, reduceIte, zR_pE, zT_pE, zL_pE, zn_pE, zE_pE, zI_pE, zQ_pE, zJ_pE, zR_pI, zT_pI, zL_pI, zn_pI, zE_pI, zI_pI, zQ_pI, zJ_pI, zR_pR, zT_pR, zL_pR, zn_pR, zE_pR, zI_pR, zQ_pR, zJ_pR, zR_pJ, zT_pJ, zL_pJ, zn_pJ, zE_pJ, zI_pJ, zQ_pJ, zJ_pJ, c0, o8, ef, ne, r3, o13, l13, dv, md, nm, gm, lm, qm, oA, wk, k10, oW, hd, zi_one]
          · obtain ⟨y, y1, y2, y3, y4⟩ := c_quiet_go hv S hc R st m (w + 1) fuel x (by omega) (by omega) hx hx2 (nd.snoc (fun _ _ => ⟨fun z => absurd z p1, fun z => absurd z p0⟩))
            refine ⟨y, y1, y2, ?_, y4⟩
            rw [← y3]
            have hd : f_X9_hasDeadline (wfA (w % 4) (w / 4)) h = some (0, h) := by
              simp only [f_X9_hasDeadline, o10, o00, bh, isO, inR, ck_true, bind_some9, Nat.reduceLeDiff, Nat.reduceEqDiff, and_self, and_true, true_and, false_and, and_false, not_false_eq_true, not_true_eq_false, or_self, or_false, false_or, if_true, if_false, reduceIte, zR_pE, zT_pE, zL_pE, zn_pE, zE_pE, zI_pE, zQ_pE, zJ_pE, zR_pI, zT_pI, zL_pI, zn_pI, zE_pI, zI_pI, zQ_pI, zJ_pI, zR_pR, zT_pR, zL_pR, zn_pR, zE_pR, zI_pR, zQ_pR, zJ_pR, zR_pJ, zT_pJ, zL_pJ, zn_pJ, zE_pJ, zI_pJ, zQ_pJ, zJ_pJ, oW, wP, i1, eq_false p1, i0, eq_false p0]
            simp only [f_X10_lastQuietTick_4, f_X10_lastQuietTick_56, o10, o00, bh, isO, inR, ck_true, bind_some9, Nat.reduceLeDiff, Nat.reduceEqDiff, and_self, and_true, true_and, false_and, and_false, not_false_eq_true, not_true_eq_false, or_self, or_false, false_or, if_true, if_false, reduceIte, zR_pE, zT_pE, zL_pE, zn_pE, zE_pE, zI_pE, zQ_pE, zJ_pE, zR_pI, zT_pI, zL_pI, zn_pI, zE_pI, zI_pI, zQ_pI, zJ_pI, zR_pR, zT_pR, zL_pR, zn_pR, zE_pR, zI_pR, zQ_pR, zJ_pR, zR_pJ, zT_pJ, zL_pJ, zn_pJ, zE_pJ, zI_pJ, zQ_pJ, zJ_pJ, c0, o8, ef, ne, r3, o13, l13, dv, md, nm, gm, lm, qm, oA, wk, k10, oW, hd, zi_one]
    · rw [if_neg d] at ef
      have ef : f_X10_find 8 (nI w) h = some (0, h) := ef
      obtain ⟨y, y1, y2, y3, y4⟩ := c_quiet_go hv S hc R st m (w + 1) fuel x (by omega) (by omega) hx hx2 (nd.snoc (fun z => absurd z d))
      refine ⟨y, y1, y2, ?_, y4⟩
      rw [← y3]
      simp only [f_X10_lastQuietTick_4, f_X10_lastQuietTick_56, o10, o00, bh, isO, inR, ck_true, bind_some9, Nat.reduceLeDiff, Nat.reduceEqDiff, and_self, and_true, true_and, false_and, and_false, not_false_eq_true, not_true_eq_false, or_self, or_false, false_or, if_true, if_false, reduceIte, zR_pE, zT_pE, zL_pE, zn_pE, zE_pE, zI_pE, zQ_pE, zJ_pE, zR_pI, zT_pI, zL_pI, zn_pI, zE_pI, zI_pI, zQ_pI, zJ_pI, zR_pR, zT_pR, zL_pR, zn_pR, zE_pR, zI_pR, zQ_pR, zJ_pR, zR_pJ, zT_pJ, zL_pJ, zn_pJ, zE_pJ, zI_pJ, zQ_pJ, zJ_pJ, c0, o8, ef, zi_one]
theorem c_quiet {h : Hp} {own : Nat → Nat} {u : Nat → Nat → Nat} {v : Nat → Nat} {W : Wld} (hv : vsOK vs) (S : WdS vs K W) {c E : Nat} (hc : c ≤ E) (hE : E < 2000000) (R : CW vs (nI c) h own u v W) (st : ∀ s, s < 4 → still (nI c) (W s)) : ∃ y, c ≤ y ∧ y ≤ E ∧ f_X10_lastQuietTick 8 (nI E) h = some (nI y, h) ∧ ∀ j, j ≤ y → ∀ s, s < 4 → still (nI j) (W s) := by
  obtain ⟨y, y1, y2, y3, y4⟩ := c_quiet_go hv S (by omega) R st 64 0 fz E (by omega) (fz_big (by omega)) hc hE (fun y hy => absurd hy (Nat.not_lt_zero _))
  refine ⟨y, y1, y2, y3, fun j hj s hs hl m hm => ?_⟩
  have hN := (R.2.2 s hs).2.2.2.2.1.1
  obtain ⟨z1, z2⟩ := y4 (s + 4 * m) (by omega) (by rw [show (s + 4 * m) / 4 = m by omega, show (s + 4 * m) % 4 = s by omega]; exact hm) (by rw [show (s + 4 * m) % 4 = s by omega]; exact hl)
  rw [show (s + 4 * m) / 4 = m by omega, show (s + 4 * m) % 4 = s by omega] at z1 z2
  refine ⟨fun z => ?_, fun z => ?_⟩
  · obtain ⟨a, a1, a2, a3⟩ := z1 z.1
    have := z.2
    rw [a3] at this
    have := (zi_le a1 (by omega)).mp this
    omega
  · obtain ⟨a, a1, a2, a3⟩ := z2 z.1 z.2.1
    have := z.2.2
    rw [a3] at this
    have := (zi_le a1 (by omega)).mp this
    omega
end Calls
/-! TICKS OF THE CLASS -/
def tmF (vs : Nat → List Prg) (now : Int32) (W : Wld) (i : Nat) : Wld := fun t => if t < i then shTime vs now (W t) else W t
theorem tmF_succ (vs : Nat → List Prg) (now : Int32) (W : Wld) (i : Nat) : upf (tmF vs now W i) i (shTime vs now (W i)) = tmF vs now W (i + 1) := by
  funext n
  unfold upf tmF
  by_cases c : n = i
  · rw [if_pos c, if_pos (by omega), c]
  · rw [if_neg c]
    by_cases c2 : n < i
    · rw [if_pos c2, if_pos (by omega)]
    · rw [if_neg c2, if_neg (by omega)]
def mgF (vs : Nat → List Prg) (now : Int32) (W : Wld) : Nat → Wld
  | 0 => W
  | i + 1 => wdAll vs now i (mgF vs now W i)
section Calls
variable {vs : Nat → List Prg} {now : Int32} {K : Nat} {K34 : Nat → Int32 → Int32 → Int32 → Hp → Option (Sum (Int32 × Hp) (Nat × Hp))}
theorem c_tick97 (hv : vsOK vs) (hdg : vsDg vs) (hK : K ≤ 2000) {l1 l2 l3 : Int32} {l4 : Int64} {W : Wld} (S : WdS vs K W) : ∀ (m i fuel : Nat) (h : Hp) (own : Nat → Nat) (u : Nat → Nat → Nat) (v : Nat → Nat), CW vs now h own u v (mgF vs now W i) → WdS vs K (mgF vs now W i) → i + m = 4 → m < fuel → ∃ fu h1 own1 u1 v1, f_X10_tick_97 K34 fuel 8 l1 l2 l3 l4 (nI i) h = f_X10_tick_97 K34 (fu + 1) 8 l1 l2 l3 l4 4 h1 ∧ CW vs now h1 own1 u1 v1 (mgF vs now W 4) ∧ WdS vs K (mgF vs now W 4) ∧ acW h own u v h1 own1 u1 v1
  | m, i, 0, h, own, u, v, _, _, _, hf => absurd hf (Nat.not_lt_zero _)
  | 0, i, fuel + 1, h, own, u, v, R, S1, hi, hf => by
    have e : i = 4 := by omega
    rw [e] at R S1 ⊢
    exact ⟨fuel, h, own, u, v, rfl, R, S1, acW.rf h own u v⟩
  | m + 1, i, fuel + 1, h, own, u, v, R, S1, hi, hf => by
    have c : ¬ (4 : Int32) ≤ nI i := zi_le0 (a := 4) (by omega) (by omega) (by omega)
    obtain ⟨⟨o8, -, r1, -, r3⟩, o13, l13, q13⟩ := id R.2.1
    have i4 : i < 4 := by omega
    obtain ⟨h1, own1, u1, v1, x1, R1, A1⟩ := c_sendAll hv hdg hK S1 R i4
    have S2 := (wdAll_G hv hdg now i4 (by omega : K ≤ 10000) S1).on S1
    obtain ⟨fu, h2, own2, u2, v2, y1, R2, S3, A2⟩ := c_tick97 hv hdg hK (l1 := l1) (l2 := l2) (l3 := l3) (l4 := l4) S m (i + 1) fuel h1 own1 u1 v1 R1 S2 (by omega) (by omega)
    refine ⟨fu, h2, own2, u2, v2, ?_, R2, S3, A1.tr A2⟩
    rw [← y1]
    have ni : (nI i).toNatClampNeg = i := zi_nat (by omega)
    have gi : ¬ nI i < 0 := zi_neg (by omega)
    have li : ¬ 4 ≤ i := by omega
    have qi := q13 i i4
    simp only [f_X10_tick_97, o10, o00, bh, isO, inR, ck_true, bind_some9, Nat.reduceLeDiff, Nat.reduceEqDiff, and_self, and_true, true_and, false_and, and_false, not_false_eq_true, not_true_eq_false, or_self, or_false, false_or, if_true, if_false, reduceIte, zR_pE, zT_pE, zL_pE, zn_pE, zE_pE, zI_pE, zQ_pE, zJ_pE, zR_pI, zT_pI, zL_pI, zn_pI, zE_pI, zI_pI, zQ_pI, zJ_pI, zR_pR, zT_pR, zL_pR, zn_pR, zE_pR, zI_pR, zQ_pR, zJ_pR, zR_pJ, zT_pJ, zL_pJ, zn_pJ, zE_pJ, zI_pJ, zQ_pJ, zJ_pJ, c, o8, r3, o13, l13, ni, gi, li, qi, x1, zi_one]
theorem c_tick72 (hv : vsOK vs) (hK : K ≤ 2000) {l1 l2 l3 : Int32} {l4 : Int64} {W : Wld} (S : WdS vs K W) : ∀ (m i fuel : Nat) (h : Hp) (own : Nat → Nat) (u : Nat → Nat → Nat) (v : Nat → Nat), CW vs now h own u v (tmF vs now W i) → i + m = 4 → m < fuel → ∃ h1 own1 u1 v1, f_X10_tick_72 K34 fuel 8 l1 l2 l3 l4 (nI i) h = f_X10_tick_97 K34 fz 8 l1 l2 l3 l4 0 h1 ∧ CW vs now h1 own1 u1 v1 (tmF vs now W 4) ∧ acW h own u v h1 own1 u1 v1
  | m, i, 0, h, own, u, v, _, _, hf => absurd hf (Nat.not_lt_zero _)
  | 0, i, fuel + 1, h, own, u, v, R, hi, hf => by
    have e : i = 4 := by omega
    rw [e] at R ⊢
    have c : (4 : Int32) ≤ nI 4 := by decide
    refine ⟨h, own, u, v, ?_, R, acW.rf h own u v⟩
    simp only [f_X10_tick_72, o10, o00, bh, isO, inR, ck_true, bind_some9, Nat.reduceLeDiff, Nat.reduceEqDiff, and_self, and_true, true_and, false_and, and_false, not_false_eq_true, not_true_eq_false, or_self, or_false, false_or, if_true, if_false, reduceIte, zR_pE, zT_pE, zL_pE, zn_pE, zE_pE, zI_pE, zQ_pE, zJ_pE, zR_pI, zT_pI, zL_pI, zn_pI, zE_pI, zI_pI, zQ_pI, zJ_pI, zR_pR, zT_pR, zL_pR, zn_pR, zE_pR, zI_pR, zQ_pR, zJ_pR, zR_pJ, zT_pJ, zL_pJ, zn_pJ, zE_pJ, zI_pJ, zQ_pJ, zJ_pJ, c]
  | m + 1, i, fuel + 1, h, own, u, v, R, hi, hf => by
    have c : ¬ (4 : Int32) ≤ nI i := zi_le0 (a := 4) (by omega) (by omega) (by omega)
    obtain ⟨⟨o8, -, r1, -, r3⟩, o13, l13, q13⟩ := id R.2.1
    have i4 : i < 4 := by omega
    have k := R.2.2 i i4
    have at1 : tmF vs now W i i = W i := if_neg (Nat.lt_irrefl i)
    rw [at1] at k
    obtain ⟨C, hS, hY⟩ := S i i4
    obtain ⟨h1, own1, u1, v1, x1, x2, x3⟩ := c_time hv i4 hK R.1 k hS hY
    obtain ⟨R1, A1⟩ := R.one i4 x2 x3
    rw [tmF_succ] at R1
    obtain ⟨h2, own2, u2, v2, y1, R2, A2⟩ := c_tick72 hv hK (l1 := l1) (l2 := l2) (l3 := l3) (l4 := l4) S m (i + 1) fuel h1 own1 _ _ R1 (by omega) (by omega)
    refine ⟨h2, own2, u2, v2, ?_, R2, A1.tr A2⟩
    rw [← y1]
    have ni : (nI i).toNatClampNeg = i := zi_nat (by omega)
    have gi : ¬ nI i < 0 := zi_neg (by omega)
    have li : ¬ 4 ≤ i := by omega
    have qi := q13 i i4
    have oA := k.1.1.1
    simp only [f_X10_tick_72, o10, o00, bh, isO, inR, ck_true, bind_some9, Nat.reduceLeDiff, Nat.reduceEqDiff, and_self, and_true, true_and, false_and, and_false, not_false_eq_true, not_true_eq_false, or_self, or_false, false_or, if_true, if_false, reduceIte, zR_pE, zT_pE, zL_pE, zn_pE, zE_pE, zI_pE, zQ_pE, zJ_pE, zR_pI, zT_pI, zL_pI, zn_pI, zE_pI, zI_pI, zQ_pI, zJ_pI, zR_pR, zT_pR, zL_pR, zn_pR, zE_pR, zI_pR, zQ_pR, zJ_pR, zR_pJ, zT_pJ, zL_pJ, zn_pJ, zE_pJ, zI_pJ, zQ_pJ, zJ_pJ, c, o8, r3, o13, l13, ni, gi, li, qi, oA, x1, zi_one]
/-- what ticks may change: shards, and the clock -/
def acT (h : Hp) (own : Nat → Nat) (u : Nat → Nat → Nat) (v : Nat → Nat) (h1 : Hp) (own1 : Nat → Nat) (u1 : Nat → Nat → Nat) (v1 : Nat → Nat) : Prop := exO own own1 h ∧ cf (fun a j => own a < 40 ∨ (a = 14 ∧ j = 100)) h h1 ∧ zs h1 + 1024 * usm u + 96 * sum4 v ≤ zs h + 1024 * usm u1 + 96 * sum4 v1 ∧ zn h1 + usm u + 3 * sum4 v ≤ zn h + usm u1 + 3 * sum4 v1
theorem acT.rf (h : Hp) (own : Nat → Nat) (u : Nat → Nat → Nat) (v : Nat → Nat) : acT h own u v h own u v := ⟨exO.rf own h, cf.rf h, Nat.le_refl _, Nat.le_refl _⟩
theorem acT.tr {h h1 h2 : Hp} {own own1 own2 : Nat → Nat} {u u1 u2 : Nat → Nat → Nat} {v v1 v2 : Nat → Nat} (p : acT h own u v h1 own1 u1 v1) (q : acT h1 own1 u1 v1 h2 own2 u2 v2) : acT h own u v h2 own2 u2 v2 := by
  obtain ⟨p1, p2, p3, p4⟩ := p
  obtain ⟨q1, q2, q3, q4⟩ := q
  exact ⟨p1.tr q1 p2.1, p2.tr2 q2 (fun a j ha z => by rw [p1 a ha] at z; exact z), by omega, by omega⟩
theorem acW.T {h h1 : Hp} {own own1 : Nat → Nat} {u u1 : Nat → Nat → Nat} {v v1 : Nat → Nat} (p : acW h own u v h1 own1 u1 v1) : acT h own u v h1 own1 u1 v1 := ⟨p.1, p.2.1.mono (fun a j _ z => Or.inl z), p.2.2.1, p.2.2.2⟩
theorem acT_clock (h : Hp) (own : Nat → Nat) (u : Nat → Nat → Nat) (v : Nat → Nat) (x : Int32) : acT h own u v (pI h 100 14 x) own u v := ⟨exO.rf own h, cf_pI (Or.inr ⟨rfl, rfl⟩), Nat.le_refl _, Nat.le_refl _⟩
theorem CW.clock {h : Hp} {own : Nat → Nat} {u : Nat → Nat → Nat} {v : Nat → Nat} {W : Wld} (R : CW vs now h own u v W) (x : Int32) : CW vs x (pI h 100 14 x) own u v W := R.low (cf_pI (Or.inr ⟨rfl, rfl⟩)) (by rw [zI_pI, if_pos ⟨rfl, rfl⟩])
theorem totQ_same {W U : Wld} (l : leQ W U) (e : totQ U = totQ W) : sameQ W U := fun s hs => by
  have h0 := l 0 (by omega)
  have h1 := l 1 (by omega)
  have h2 := l 2 (by omega)
  have h3 := l 3 (by omega)
  unfold totQ at e
  have : s = 0 ∨ s = 1 ∨ s = 2 ∨ s = 3 := by omega
  rcases this with z | z | z | z <;> rw [z] <;> omega
theorem leQ_tick (W : Wld) : leQ W (wdTick vs now W) := by
  have l0 := (wdTimes_q vs now W).1
  have l1 := (wdAll_q (vs := vs) (s := 0) (by decide) now (wdTimes vs now W)).1
  have l2 := (wdAll_q (vs := vs) (s := 1) (by decide) now (wdAll vs now 0 (wdTimes vs now W))).1
  have l3 := (wdAll_q (vs := vs) (s := 2) (by decide) now (wdAll vs now 1 (wdAll vs now 0 (wdTimes vs now W)))).1
  have l4 := (wdAll_q (vs := vs) (s := 3) (by decide) now (wdAll vs now 2 (wdAll vs now 1 (wdAll vs now 0 (wdTimes vs now W))))).1
  unfold wdTick
  generalize wdAll vs now 3 (wdAll vs now 2 (wdAll vs now 1 (wdAll vs now 0 (wdTimes vs now W)))) = w4 at *
  generalize wdAll vs now 2 (wdAll vs now 1 (wdAll vs now 0 (wdTimes vs now W))) = w3 at *
  generalize wdAll vs now 1 (wdAll vs now 0 (wdTimes vs now W)) = w2 at *
  generalize wdAll vs now 0 (wdTimes vs now W) = w1 at *
  generalize wdTimes vs now W = w0 at *
  intro s hs
  have a0 := l0 s hs
  have a1 := l1 s hs
  have a2 := l2 s hs
  have a3 := l3 s hs
  have a4 := l4 s hs
  omega
theorem c_tick34 (hv : vsOK vs) (hdg : vsDg vs) (hK : K ≤ 2000) {n E : Nat} (hE : E < 2000000) (hn : n ≤ 500) : ∀ (i fuel j c r : Nat) (h : Hp) (own : Nat → Nat) (u : Nat → Nat → Nat) (v : Nat → Nat) (W : Wld), WdS vs K W → CW vs (nI c) h own u v W → j + i = n → i < fuel → c + r = E → r ≤ i → ∃ h1 own1 u1 v1, f_X10_tick_34 fuel 8 (nI n) (nI E) (nI j) h = some (.inl (nI E, h1)) ∧ CW vs (nI E) h1 own1 u1 v1 (wdTicks vs r c W) ∧ acT h own u v h1 own1 u1 v1
  | i, 0, j, c, r, h, own, u, v, W, _, _, _, hf, _, _ => absurd hf (Nat.not_lt_zero _)
  | 0, fuel + 1, j, c, r, h, own, u, v, W, S, R, hj, hf, hr, hri => by
    obtain ⟨⟨o8, -, r1, -, r3⟩, -⟩ := id R.2.1
    obtain ⟨-, -, -, oC, eC⟩ := id R.1
    have c0 : nI n ≤ nI j := (zi_le (by omega) (by omega)).mpr (by omega)
    have er : r = 0 := by omega
    have ec : c = E := by omega
    rw [er]
    rw [ec] at R eC
    refine ⟨h, own, u, v, ?_, R, acT.rf h own u v⟩
    simp only [f_X10_tick_34, o10, o00, bh, isO, inR, ck_true, bind_some9, Nat.reduceLeDiff, Nat.reduceEqDiff, and_self, and_true, true_and, false_and, and_false, not_false_eq_true, not_true_eq_false, or_self, or_false, false_or, if_true, if_false, reduceIte, zR_pE, zT_pE, zL_pE, zn_pE, zE_pE, zI_pE, zQ_pE, zJ_pE, zR_pI, zT_pI, zL_pI, zn_pI, zE_pI, zI_pI, zQ_pI, zJ_pI, zR_pR, zT_pR, zL_pR, zn_pR, zE_pR, zI_pR, zQ_pR, zJ_pR, zR_pJ, zT_pJ, zL_pJ, zn_pJ, zE_pJ, zI_pJ, zQ_pJ, zJ_pJ, c0, o8, r1, oC, eC]
  | i + 1, fuel + 1, j, c, r, h, own, u, v, W, S, R, hj, hf, hr, hri => by
    obtain ⟨⟨o8, -, r1, -, r3⟩, -⟩ := id R.2.1
    obtain ⟨-, -, -, oC, eC⟩ := id R.1
    have c0 : (nI n ≤ nI j) = False := eq_false (zi_le0 (by omega) (by omega) (by omega))
    cases r with
    | zero =>
      have ec : c = E := by omega
      rw [ec] at R eC
      have kk : (nI E = nI E) = True := eq_true rfl
      refine ⟨h, own, u, v, ?_, R, acT.rf h own u v⟩
      simp only [f_X10_tick_34, o10, o00, bh, isO, inR, ck_true, bind_some9, Nat.reduceLeDiff, Nat.reduceEqDiff, and_self, and_true, true_and, false_and, and_false, not_false_eq_true, not_true_eq_false, or_self, or_false, false_or, if_true, if_false, reduceIte, zR_pE, zT_pE, zL_pE, zn_pE, zE_pE, zI_pE, zQ_pE, zJ_pE, zR_pI, zT_pI, zL_pI, zn_pI, zE_pI, zI_pI, zQ_pI, zJ_pI, zR_pR, zT_pR, zL_pR, zn_pR, zE_pR, zI_pR, zQ_pR, zJ_pR, zR_pJ, zT_pJ, zL_pJ, zn_pJ, zE_pJ, zI_pJ, zQ_pJ, zJ_pJ, c0, o8, r1, oC, eC]
    | succ r =>
      have ce : (nI c = nI E) = False := eq_false (fun z => by
        have := (zi_eq (by omega) (by omega)).mp z
        omega)
      have tr := c_tried R
      have e1 : nI c + (1 : Int32) = nI (c + 1) := zi_one c
      have R0 := R.clock (nI (c + 1))
      have A0 := acT_clock h own u v (nI (c + 1))
      generalize hg0 : pI h 100 14 (nI (c + 1)) = g0 at *
      have t0 : tmF vs (nI (c + 1)) W 0 = W := by
        funext t
        exact if_neg (Nat.not_lt_zero t)
      obtain ⟨h1, own1, u1, v1, x1, R1, A1⟩ := c_tick72 (K34 := f_X10_tick_34 fuel) (l1 := nI n) (l2 := nI E) (l3 := nI j) (l4 := Int64.ofNat (totQ W)) hv hK S 4 0 fz g0 own u v (by rw [t0]; exact R0) (by omega) (fz_big (by omega))
      have R1 : CW vs (nI (c + 1)) h1 own1 u1 v1 (wdTimes vs (nI (c + 1)) W) := R1
      have S1 := ((wdTimes_G (vs := vs) (nI (c + 1)) W).on S)
      obtain ⟨fu, h2, own2, u2, v2, x2, R2, S2, A2⟩ := c_tick97 (K34 := f_X10_tick_34 fuel) (l1 := nI n) (l2 := nI E) (l3 := nI j) (l4 := Int64.ofNat (totQ W)) hv hdg hK S1 4 0 fz h1 own1 u1 v1 R1 S1 (by omega) (fz_big (by omega))
      have R2 : CW vs (nI (c + 1)) h2 own2 u2 v2 (wdTick vs (nI (c + 1)) W) := R2
      have S2 : WdS vs K (wdTick vs (nI (c + 1)) W) := S2
      have x1 : f_X10_tick_72 (f_X10_tick_34 fuel) fz 8 (nI n) (nI E) (nI j) (Int64.ofNat (totQ W)) 0 g0 = f_X10_tick_97 (f_X10_tick_34 fuel) fz 8 (nI n) (nI E) (nI j) (Int64.ofNat (totQ W)) 0 h1 := x1
      have x2 : f_X10_tick_97 (f_X10_tick_34 fuel) fz 8 (nI n) (nI E) (nI j) (Int64.ofNat (totQ W)) 0 h1 = f_X10_tick_97 (f_X10_tick_34 fuel) (fu + 1) 8 (nI n) (nI E) (nI j) (Int64.ofNat (totQ W)) 4 h2 := x2
      have AT := (A0.tr A1.T).tr A2.T
      have o82 := R2.2.1.1.1
      have r12 := R2.2.1.1.2.2.1
      have oC2 := R2.1.2.2.2.1
      have tr2 := c_tried R2
      have c4 : (4 : Int32) ≤ 4 := by decide
      have bq : ∀ U : Wld, WdS vs K U → totQ U < 1000000 := fun U hU => by
        have q0 := hU.q (s := 0) (by omega)
        have q1 := hU.q (s := 1) (by omega)
        have q2 := hU.q (s := 2) (by omega)
        have q3 := hU.q (s := 3) (by omega)
        unfold totQ
        omega
      have lz := lg_zero (bq _ S2) (bq _ S)
      have eT : wdTicks vs (r + 1) c W = wdTicks vs r (c + 1) (wdTick vs (nI (c + 1)) W) := rfl
      rw [eT]
      by_cases cq : totQ (wdTick vs (nI (c + 1)) W) = totQ W
      · have sq := totQ_same (leQ_tick W) cq
        obtain ⟨w1, w2, w3⟩ := wdTick_quiet (fun s hs => (R.2.2 s hs).2.2.2.2.1.1) sq
        rw [w1] at R2 S2 tr2 lz cq ⊢
        obtain ⟨y, y1, y2, y3, y4⟩ := c_quiet hv S2 (E := E) (by omega) hE R2 w2
        have R3 := R2.clock (nI y)
        have A3 := acT_clock h2 own2 u2 v2 (nI y)
        have eW : wdTicks vs r (c + 1) W = wdTicks vs (E - y) y W := by
          have : r = (y - (c + 1)) + (E - y) := by omega
          rw [this, wdTicks_add, wdTicks_still vs (y - (c + 1)) (c + 1) (fun j h1 h2 => w3 (nI j) (y4 j (by omega)))]
          rw [show c + 1 + (y - (c + 1)) = y by omega]
        rw [eW]
        generalize hg3 : pI h2 100 14 (nI y) = g3 at *
        obtain ⟨h4, own4, u4, v4, z1, z2, z3⟩ := c_tick34 hv hdg hK hE hn i fuel (j + 1) y (E - y) g3 own2 u2 v2 W S R3 (by omega) (by omega) (by omega) (by omega)
        refine ⟨h4, own4, u4, v4, ?_, z2, (AT.tr A3).tr z3⟩
        rw [← z1]
        have cqe := eq_true cq
        simp only [f_X10_tick_34, o10, o00, bh, isO, inR, ck_true, bind_some9, Nat.reduceLeDiff, Nat.reduceEqDiff, and_self, and_true, true_and, false_and, and_false, not_false_eq_true, not_true_eq_false, or_self, or_false, false_or, if_true, if_false, reduceIte, zR_pE, zT_pE, zL_pE, zn_pE, zE_pE, zI_pE, zQ_pE, zJ_pE, zR_pI, zT_pI, zL_pI, zn_pI, zE_pI, zI_pI, zQ_pI, zJ_pI, zR_pR, zT_pR, zL_pR, zn_pR, zE_pR, zI_pR, zQ_pR, zJ_pR, zR_pJ, zT_pJ, zL_pJ, zn_pJ, zE_pJ, zI_pJ, zQ_pJ, zJ_pJ, c0, o8, r1, oC, eC, ce, tr, e1, hg0, x1, x2]
        simp only [f_X10_tick_97, f_X10_tick_142, o10, o00, bh, isO, inR, ck_true, bind_some9, Nat.reduceLeDiff, Nat.reduceEqDiff, and_self, and_true, true_and, false_and, and_false, not_false_eq_true, not_true_eq_false, or_self, or_false, false_or, if_true, if_false, reduceIte, zR_pE, zT_pE, zL_pE, zn_pE, zE_pE, zI_pE, zQ_pE, zJ_pE, zR_pI, zT_pI, zL_pI, zn_pI, zE_pI, zI_pI, zQ_pI, zJ_pI, zR_pR, zT_pR, zL_pR, zn_pR, zE_pR, zI_pR, zQ_pR, zJ_pR, zR_pJ, zT_pJ, zL_pJ, zn_pJ, zE_pJ, zI_pJ, zQ_pJ, zJ_pJ, c4, o82, tr2, lz, y3, r12, oC2, hg3, zi_one]
      · obtain ⟨h4, own4, u4, v4, z1, z2, z3⟩ := c_tick34 hv hdg hK hE hn i fuel (j + 1) (c + 1) r h2 own2 u2 v2 _ S2 R2 (by omega) (by omega) (by omega) (by omega)
        refine ⟨h4, own4, u4, v4, ?_, z2, AT.tr z3⟩
        rw [← z1]
        have cqe := eq_false cq
        simp only [f_X10_tick_34, o10, o00, bh, isO, inR, ck_true, bind_some9, Nat.reduceLeDiff, Nat.reduceEqDiff, and_self, and_true, true_and, false_and, and_false, not_false_eq_true, not_true_eq_false, or_self, or_false, false_or, if_true, if_false, reduceIte, zR_pE, zT_pE, zL_pE, zn_pE, zE_pE, zI_pE, zQ_pE, zJ_pE, zR_pI, zT_pI, zL_pI, zn_pI, zE_pI, zI_pI, zQ_pI, zJ_pI, zR_pR, zT_pR, zL_pR, zn_pR, zE_pR, zI_pR, zQ_pR, zJ_pR, zR_pJ, zT_pJ, zL_pJ, zn_pJ, zE_pJ, zI_pJ, zQ_pJ, zJ_pJ, c0, o8, r1, oC, eC, ce, tr, e1, hg0, x1, x2]
        simp only [f_X10_tick_97, f_X10_tick_142, o10, o00, bh, isO, inR, ck_true, bind_some9, Nat.reduceLeDiff, Nat.reduceEqDiff, and_self, and_true, true_and, false_and, and_false, not_false_eq_true, not_true_eq_false, or_self, or_false, false_or, if_true, if_false, reduceIte, zR_pE, zT_pE, zL_pE, zn_pE, zE_pE, zI_pE, zQ_pE, zJ_pE, zR_pI, zT_pI, zL_pI, zn_pI, zE_pI, zI_pI, zQ_pI, zJ_pI, zR_pR, zT_pR, zL_pR, zn_pR, zE_pR, zI_pR, zQ_pR, zJ_pR, zR_pJ, zT_pJ, zL_pJ, zn_pJ, zE_pJ, zI_pJ, zQ_pJ, zJ_pJ, c4, o82, tr2, lz, cqe, zi_one]
theorem c_tick {h : Hp} {own : Nat → Nat} {u : Nat → Nat → Nat} {v : Nat → Nat} {W : Wld} {c : Nat} (hv : vsOK vs) (hdg : vsDg vs) (hK : K ≤ 2000) (hc : c < 1000000) (S : WdS vs K W) (R : CW vs (nI c) h own u v W) (n : Int32) : (n < 1 ∨ 500 < n → f_X10_tick 8 n h = some (.inr (12, h))) ∧ (¬ (n < 1 ∨ 500 < n) → ∃ h1 own1 u1 v1, f_X10_tick 8 n h = some (.inl (nI (c + n.toNatClampNeg), h1)) ∧ CW vs (nI (c + n.toNatClampNeg)) h1 own1 u1 v1 (wdTicks vs n.toNatClampNeg c W) ∧ acT h own u v h1 own1 u1 v1) := by
  obtain ⟨⟨o8, -, r1, -, r3⟩, -⟩ := id R.2.1
  obtain ⟨-, -, -, oC, eC⟩ := id R.1
  refine ⟨fun z => ?_, fun z => ?_⟩
  · by_cases c1 : n < 1
    · simp only [f_X10_tick, o10, o00, bh, isO, inR, ck_true, bind_some9, Nat.reduceLeDiff, Nat.reduceEqDiff, and_self, and_true, true_and, false_and, and_false, not_false_eq_true, not_true_eq_false, or_self, or_false, false_or, if_true, if_false, reduceIte, zR_pE, zT_pE, zL_pE, zn_pE, zE_pE, zI_pE, zQ_pE, zJ_pE, zR_pI, zT_pI, zL_pI, zn_pI, zE_pI, zI_pI, zQ_pI, zJ_pI, zR_pR, zT_pR, zL_pR, zn_pR, zE_pR, zI_pR, zQ_pR, zJ_pR, zR_pJ, zT_pJ, zL_pJ, zn_pJ, zE_pJ, zI_pJ, zQ_pJ, zJ_pJ, c1]
    · have c2 : (n ≤ (500 : Int32)) = False := eq_false (Int32.not_le.mpr (z.resolve_left c1))
      simp only [f_X10_tick, o10, o00, bh, isO, inR, ck_true, bind_some9, Nat.reduceLeDiff, Nat.reduceEqDiff, and_self, and_true, true_and, false_and, and_false, not_false_eq_true, not_true_eq_false, or_self, or_false, false_or, if_true, if_false, reduceIte, zR_pE, zT_pE, zL_pE, zn_pE, zE_pE, zI_pE, zQ_pE, zJ_pE, zR_pI, zT_pI, zL_pI, zn_pI, zE_pI, zI_pI, zQ_pI, zJ_pI, zR_pR, zT_pR, zL_pR, zn_pR, zE_pR, zI_pR, zQ_pR, zJ_pR, zR_pJ, zT_pJ, zL_pJ, zn_pJ, zE_pJ, zI_pJ, zQ_pJ, zJ_pJ, c1, c2]
  · have c1 : ¬ n < 1 := fun y => z (Or.inl y)
    have c2 : ¬ 500 < n := fun y => z (Or.inr y)
    have c2e : (n ≤ (500 : Int32)) = True := eq_true (Int32.not_lt.mp c2)
    have n0 : ¬ n < 0 := fun y => c1 (Int32.lt_trans y (by decide))
    obtain ⟨a, ha, ea⟩ := zi_of n0
    have na : (nI a).toNatClampNeg = a := zi_nat ha
    have a5 : a ≤ 500 := by
      rw [ea] at c2
      by_cases y : a ≤ 500
      · exact y
      · exact absurd ((zi_lt (a := 500) (by omega) ha).mpr (by omega)) c2
    rw [ea] at c1 c2e ⊢
    rw [na]
    obtain ⟨h1, own1, u1, v1, x1, x2, x3⟩ := c_tick34 hv hdg hK (n := a) (E := c + a) (by omega) a5 a fz 0 c a h own u v W S R (by omega) (fz_big (by omega)) rfl (Nat.le_refl _)
    have x1 : f_X10_tick_34 fz 8 (nI a) (nI (c + a)) 0 h = some (.inl (nI (c + a), h1)) := x1
    have ad : nI c + nI a = nI (c + a) := zi_add _ _
    refine ⟨h1, own1, u1, v1, ?_, x2, x3⟩
    simp only [f_X10_tick, o10, o00, bh, isO, inR, ck_true, bind_some9, Nat.reduceLeDiff, Nat.reduceEqDiff, and_self, and_true, true_and, false_and, and_false, not_false_eq_true, not_true_eq_false, or_self, or_false, false_or, if_true, if_false, reduceIte, zR_pE, zT_pE, zL_pE, zn_pE, zE_pE, zI_pE, zQ_pE, zJ_pE, zR_pI, zT_pI, zL_pI, zn_pI, zE_pI, zI_pI, zQ_pI, zJ_pI, zR_pR, zT_pR, zL_pR, zn_pR, zE_pR, zI_pR, zQ_pR, zJ_pR, zR_pJ, zT_pJ, zL_pJ, zn_pJ, zE_pJ, zI_pJ, zQ_pJ, zJ_pJ, c1, c2e, o8, r1, oC, eC, ad, x1]
end Calls
