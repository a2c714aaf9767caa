/-! A RECORD IS READ, IN THE CLASS -/
theorem c_head {h : Hp} {own : Nat → Nat} {s v l kk : Nat} {u : Nat → Nat} {q : Shd} {r : Rec} (k : shC h own s u v q) (hl : l < 5) (hT : dkT (shD q l) = 0) (hL : (dkL (shD q l)).length ≤ 10000) (hk : kk < (dkL (shD q l)).length) (hr : (dkL (shD q l)).getD kk r0 = r) : isO h (shA s + (8 + 2 * l)) 6 ∧ zI h 602 (shA s + (8 + 2 * l)) = nI (dkSz (shD q l)) ∧ rcM r ∧ f_X5_byteAt (shA s + (8 + 2 * l)) (nI (16 * kk)) h = some (nI (16 * rcN r + rcK r), h) ∧ f_X5_wordAt (shA s + (8 + 2 * l)) (nI (16 * kk + 3)) h = some (rcA r, h) ∧ f_X5_wordAt (shA s + (8 + 2 * l)) (nI (16 * kk + 7)) h = some (rcB r, h) ∧ f_X5_wordAt (shA s + (8 + 2 * l)) (nI (16 * kk + 11)) h = some (rcC r, h) := by
  obtain ⟨B, y, -, hM⟩ := k.2.2.1 l hl
  have hz : dkSz (shD q l) < 1000000 := by unfold dkSz; omega
  have hm : rcM r := by
    rw [← hr]
    refine hM.1 _ ?_
    rw [List.getD_eq_getElem?_getD, List.getElem?_eq_getElem hk]
    exact List.getElem_mem hk
  have b0 := c_byteAt y (i := 16 * kk) (by unfold dkSz; omega) hz
  rw [show 16 * kk = 16 * kk + 0 by omega, dkb_at hk (by omega : 0 < 16), hr, cB_0 hm] at b0
  refine ⟨y.1.1, y.1.2.2.2.1.1, hm, b0, c_wordAt y hz hk (Or.inl ⟨rfl, by rw [hr]⟩), c_wordAt y hz hk (Or.inr (Or.inl ⟨rfl, by rw [hr]⟩)), c_wordAt y hz hk (Or.inr (Or.inr ⟨rfl, by rw [hr]⟩))⟩
theorem c_read {vs : Nat → List Prg} {now : Int32} {h : Hp} {own : Nat → Nat} {s v l kk fuel : Nat} {u : Nat → Nat} {q : Shd} {r : Rec} (hv : vsOK vs) (hs : s < 4) (cx : cxC h own vs now) (k : shC h own s u v q) (hl : l < 5) (hT : dkT (shD q l) = 0) (hL : (dkL (shD q l)).length ≤ 10000) (hk : kk < (dkL (shD q l)).length) (hr : (dkL (shD q l)).getD kk r0 = r) {A : List Rec} (hA : lgV vs A) (hrc : rcOK vs (lgB A) r) (gA : stA vs (lgB A) q) : ∃ h1 own1 v1, f_X6_readLog_15 (fuel + 1) (shA s) (shA s + (8 + 2 * l)) (nI kk) h = f_X6_readLog_15 fuel (shA s) (shA s + (8 + 2 * l)) (nI (kk + 1)) h1 ∧ shC h1 own1 s u v1 (shRead vs now q kk r) ∧ acC s h own u v h1 own1 u v1 := by
  obtain ⟨w, hz, vq, oC, eC⟩ := id cx
  obtain ⟨oD, e602, hm, b0, w3, w7, w11⟩ := c_head k hl hT hL hk hr
  obtain ⟨m1, m2, m3⟩ := id hm
  obtain ⟨⟨⟨oA, -, r701, r702, r703, r704, r705, r706⟩, -, ⟨o2, l2, q2⟩, -, o4⟩, -⟩ := id k
  have cdiv : nI (dkSz (shD q l)) / (16 : Int32) = nI (dkL (shD q l)).length := by
    have : nI (dkSz (shD q l)) / nI 16 = nI (dkSz (shD q l) / 16) := zi_div (by unfold dkSz; omega) (by omega) (by omega)
    rw [show (16 : Int32) = nI 16 from rfl, this]
    congr 1
    unfold dkSz
    omega
  have c : (nI (dkL (shD q l)).length ≤ nI kk) = False := eq_false (zi_le0 (by omega) (by omega) (by omega))
  have m16 : nI kk * (16 : Int32) = nI (16 * kk) := by rw [show (16 : Int32) = nI 16 from rfl, zi_mul, Nat.mul_comm]
  have dv : nI (16 * rcN r + rcK r) / (16 : Int32) = nI (rcN r) := by
    have : nI (16 * rcN r + rcK r) / nI 16 = nI ((16 * rcN r + rcK r) / 16) := zi_div (by omega) (by omega) (by omega)
    rw [show (16 : Int32) = nI 16 from rfl, this]
    congr 1
    omega
  have hd : nI (16 * rcN r + rcK r) - nI (rcN r) * (16 : Int32) = nI (rcK r) := by
    rw [show (16 : Int32) = nI 16 from rfl, zi_mul, zi_sub (by omega)]
    congr 1
    omega
  have a3 : nI (16 * kk) + (3 : Int32) = nI (16 * kk + 3) := zi_add _ 3
  have a7 : nI (16 * kk) + (7 : Int32) = nI (16 * kk + 7) := zi_add _ 7
  have a11 : nI (16 * kk) + (11 : Int32) = nI (16 * kk + 11) := zi_add _ 11
  have nn : (nI (rcN r)).toNatClampNeg = rcN r := zi_nat (by omega)
  have gn : ¬ nI (rcN r) < 0 := zi_neg (by omega)
  have ln : ¬ 16 ≤ rcN r := by omega
  have kI : ∀ x, x < 16 → ((nI (rcK r) = nI x) = (rcK r = x)) := fun x hx => propext (zi_eq (by omega) (by omega))
  have k0 : ((nI (rcK r) = 0) = (rcK r = 0)) := kI 0 (by omega)
  have k14 : ((nI (rcK r) = 14) = (rcK r = 14)) := kI 14 (by omega)
  have k15 : ((nI (rcK r) = 15) = (rcK r = 15)) := kI 15 (by omega)
  have k13 : ((nI (rcK r) = 13) = (rcK r = 13)) := kI 13 (by omega)
  have qn : zQ h (shA s + 2) (rcN r) = wfA s (rcN r) := q2 _ m1
  have oW : isO h (wfA s (rcN r)) 10 := (k.2.2.2.1 _ m1).1.1.1
  rcases id hrc with ⟨r1, r2, r3, r4, P, r5⟩ | ⟨r1, r2⟩ | ⟨r1, r2, p, r3, r4, r5⟩ | ⟨r1, r2, r3⟩ | ⟨r1, r2, r3, ⟨r4, r5⟩, P, r6, r7⟩
  · obtain ⟨a, ha, ea⟩ := zi_of r4
    have na : (nI a).toNatClampNeg = a := zi_nat ha
    rw [ea] at r5
    have r5 : (vs ((nI a).toNatClampNeg % 8))[(nI a).toNatClampNeg / 8]? = some P := r5
    rw [na] at r5
    obtain ⟨h1, x1, x2, x3⟩ := c_openRow (n := rcN r) hs cx k m1 (Or.inl (by rw [gA.1]; exact r2.symm)) (p := a % 8) (j := a / 8) (by omega) r5 (hv _ (by omega)).1 (rcB r) (rcC r) (by rw [gA.1]; exact r2)
    rw [show a % 8 + 8 * (a / 8) = a by omega] at x1 x2
    rw [← ea] at x1 x2
    have e2 : shRead vs now q kk r = shOpen vs q (rcN r) (rcA r) (rcB r) (rcC r) := by unfold shRead; simp only []; rw [if_pos r1]
    have d0 := eq_true r1
    refine ⟨h1, own, v, ?_, by rw [e2]; exact x2, x3⟩
    simp only [f_X6_readLog_15, f_X6_readLog_248, o10, o00, bh, isO, inR, ck_true, bind_some9, Nat.reduceLeDiff, Nat.reduceEqDiff, and_self, and_true, true_and, false_and, and_false, not_false_eq_true, not_true_eq_false, or_self, or_false, false_or, if_true, if_false, reduceIte, zR_pE, zT_pE, zL_pE, zn_pE, zE_pE, zI_pE, zQ_pE, zJ_pE, zR_pI, zT_pI, zL_pI, zn_pI, zE_pI, zI_pI, zQ_pI, zJ_pI, zR_pR, zT_pR, zL_pR, zn_pR, zE_pR, zI_pR, zQ_pR, zJ_pR, zR_pJ, zT_pJ, zL_pJ, zn_pJ, zE_pJ, zI_pJ, zQ_pJ, zJ_pJ, oD, e602, cdiv, c, m16, b0, dv, hd, a3, a7, a11, w3, w7, w11, k0, d0, oA, x1, zi_one]
  · have e2 : shRead vs now q kk r = q := by unfold shRead; simp only []; rw [if_neg (by omega), if_neg (by omega), if_neg (by omega), if_neg (by omega)]
    have d0 : (rcK r = 0) = False := eq_false (by omega)
    have d14 : (rcK r = 14) = False := eq_false (by omega)
    have d15 : (rcK r = 15) = False := eq_false (by omega)
    have d13 := eq_true r1
    refine ⟨h, own, v, ?_, by rw [e2]; exact k, acC.rf s h own u v⟩
    simp only [f_X6_readLog_15, f_X6_readLog_248, o10, o00, bh, isO, inR, ck_true, bind_some9, Nat.reduceLeDiff, Nat.reduceEqDiff, and_self, and_true, true_and, false_and, and_false, not_false_eq_true, not_true_eq_false, or_self, or_false, false_or, if_true, if_false, reduceIte, zR_pE, zT_pE, zL_pE, zn_pE, zE_pE, zI_pE, zQ_pE, zJ_pE, zR_pI, zT_pI, zL_pI, zn_pI, zE_pI, zI_pI, zQ_pI, zJ_pI, zR_pR, zT_pR, zL_pR, zn_pR, zE_pR, zI_pR, zQ_pR, zJ_pR, zR_pJ, zT_pJ, zL_pJ, zn_pJ, zE_pJ, zI_pJ, zQ_pJ, zJ_pJ, oD, e602, cdiv, c, m16, b0, dv, hd, a3, a7, a11, w3, w7, w11, k0, d0, k14, d14, k15, d15, k13, d13, zi_one]
  · have e2 : shRead vs now q kk r = shSetO q ((shO q).filter (fun m => nI m.1 ≠ rcA r)) := by unfold shRead; simp only []; rw [if_neg (by omega), if_pos r1]; rfl
    have d0 : (rcK r = 0) = False := eq_false (by omega)
    have d14 := eq_true r1
    obtain ⟨a, b, c9, R, ow, v1, v2, vl⟩ := k.2.2.2.2.2.R w hs o4
    have ol := (lgV_bound hA).2
    rw [← gA.2.1] at ol
    obtain ⟨h2, z1, z2, z3, z4⟩ := c_remove (p := rcA r) R vl (by omega) (by omega)
    have own4 : own (shA s + 4) = 10 * s + 8 := ow_at w hs (by omega) (by omega) (by omega)
    have hS : ∀ x j, obX (shA s + 4) a b c9 x j → x = shA s + 4 ∨ own x = 10 * s + 5 ∨ own x = 10 * s + 6 ∨ own x = 10 * s + 7 := fun x j z => by
      rcases z with z | z | z | z
      · exact Or.inl z.1
      · rw [z]; exact Or.inr (Or.inl ow.1)
      · rw [z]; exact Or.inr (Or.inr (Or.inl ow.2.1))
      · rw [z]; exact Or.inr (Or.inr (Or.inr ow.2.2))
    have lf : ((shO q).filter (fun m => nI m.1 ≠ rcA r)).length ≤ 16 * v := Nat.le_trans (List.length_filter_le _ _) vl
    refine ⟨h2, own, v, ?_, by rw [e2]; exact k.ob w hs z3 (exO.rf own h) hS (obC_of z2 ow v1 v2 lf), acC.nz (z3.mono (fun x j _ z => ?_)) z4⟩
    · simp only [f_X6_readLog_15, f_X6_readLog_248, o10, o00, bh, isO, inR, ck_true, bind_some9, Nat.reduceLeDiff, Nat.reduceEqDiff, and_self, and_true, true_and, false_and, and_false, not_false_eq_true, not_true_eq_false, or_self, or_false, false_or, if_true, if_false, reduceIte, zR_pE, zT_pE, zL_pE, zn_pE, zE_pE, zI_pE, zQ_pE, zJ_pE, zR_pI, zT_pI, zL_pI, zn_pI, zE_pI, zI_pI, zQ_pI, zJ_pI, zR_pR, zT_pR, zL_pR, zn_pR, zE_pR, zI_pR, zQ_pR, zJ_pR, zR_pJ, zT_pJ, zL_pJ, zn_pJ, zE_pJ, zI_pJ, zQ_pJ, zJ_pJ, oD, e602, cdiv, c, m16, b0, dv, hd, a3, a7, a11, w3, w7, w11, k0, d0, k14, d14, oA, r706, o4, z1, zi_one]
    · rcases hS x j z with z | z | z | z
      · rw [z, own4]; omega
      · rw [z]; omega
      · rw [z]; omega
      · rw [z]; omega
  · have e2 : shRead vs now q kk r = shSetF q (rcN r) (flP (shF q (rcN r)), flE (shF q (rcN r)), flW (shF q (rcN r)), tkReady (flT (shF q (rcN r))) (rcA r) (if now < rcB r then rcB r else now)) := by
      unfold shRead; simp only []; rw [if_neg (by omega), if_neg (by omega), if_pos r1]
    have d0 : (rcK r = 0) = False := eq_false (by omega)
    have d14 : (rcK r = 14) = False := eq_false (by omega)
    have d15 := eq_true r1
    have hn : rcN r < shN q := by rw [gA.1]; exact r2
    have wf : wfC h (wfA s (rcN r)) (s + 4 * rcN r) (shF q (rcN r)) := k.2.2.2.1 _ m1
    obtain ⟨t, qh, qw, qk⟩ := id wf
    have pr : prC h own (zR h 1004 (wfA s (rcN r))) (flP (shF q (rcN r))) := k.2.2.2.2.1.2 _ hn
    obtain ⟨h1, x1, x2, x3, x4⟩ := c_ready t qk (rcA r) (if now < rcB r then rcB r else now)
    have ownT : own (wfA s (rcN r) + 7) = 10 * s + 8 := by
      have : wfA s (rcN r) + 7 = shA s + (18 + 8 * rcN r + 7) := by unfold wfA; omega
      rw [this]
      exact ow_at w hs (by omega) (by omega) (by omega)
    have r1003 := t.1.2.2.2.2
    have oT := t.2.2.2.2.2
    refine ⟨h1, own, v, ?_, ?_, acC.nz (x3.mono (fun p j _ z => by rw [z, ownT]; omega)) x4⟩
    · have x1 : f_X8_ready (wfA s (rcN r) + 7) (rcA r) (if now < rcB r then rcB r else now) h = some h1 := x1
      simp only [f_X6_readLog_15, f_X6_readLog_248, o10, o00, bh, isO, inR, ck_true, bind_some9, Nat.reduceLeDiff, Nat.reduceEqDiff, and_self, and_true, true_and, false_and, and_false, not_false_eq_true, not_true_eq_false, or_self, or_false, false_or, if_true, if_false, reduceIte, zR_pE, zT_pE, zL_pE, zn_pE, zE_pE, zI_pE, zQ_pE, zJ_pE, zR_pI, zT_pI, zL_pI, zn_pI, zE_pI, zI_pI, zQ_pI, zJ_pI, zR_pR, zT_pR, zL_pR, zn_pR, zE_pR, zI_pR, zQ_pR, zJ_pR, zR_pJ, zT_pJ, zL_pJ, zn_pJ, zE_pJ, zI_pJ, zQ_pJ, zJ_pJ, oD, e602, cdiv, c, m16, b0, dv, hd, a3, a7, a11, w3, w7, w11, k0, d0, k14, d14, k15, d15, oA, r704, o2, l2, nn, gn, ln, qn, oW, r701, oC, eC, r1003, oT, x1, zi_one]
    · rw [e2]
      refine k.row (n := rcN r) w hs m1 x3 (fun a j z => ?_) ⟨t.on x3 (fun j _ _ z => by omega) (fun j _ _ z => by omega), qh.on t x3 (fun z => by omega) (fun a j _ _ z => by omega), qw.on t x3 (fun j _ _ z => by omega) (fun j z => by omega), x2⟩ (fun _ => ?_)
      · rw [z]
        unfold wfA
        omega
      · have e4 : zR h1 1004 (wfA s (rcN r)) = zR h 1004 (wfA s (rcN r)) := x3.R t.1.1 (by omega)
        have : prC h1 own (zR h1 1004 (wfA s (rcN r))) (flP (shF q (rcN r))) := by
          rw [e4]
          exact pr.on x3 (exO.rf own h) (fun p j hp z => by rw [z, ownT] at hp; omega)
        exact this
  · have hn : rcN r < shN q := by rw [gA.1]; exact r3
    have d0 : (rcK r = 0) = False := eq_false (by omega)
    have d14 : (rcK r = 14) = False := eq_false (by omega)
    have d15 : (rcK r = 15) = False := eq_false (by omega)
    have d13 : (rcK r = 13) = False := eq_false (by omega)
    obtain ⟨p1, l0, ko, G, G2, fA, eE⟩ := rd_ok hv hA gA hn
    obtain ⟨z1, z2, z3, z4⟩ := id fA
    have eP : flP (shF q (rcN r)) = P := Option.some.inj (z2.symm.trans (by rw [← eE] at r6; exact r6))
    obtain ⟨v1, h1, x1, x2, x3, x4⟩ := c_runS (vs := vs) (now := now) w hs k hn p1 l0 ko G
    obtain ⟨y1, y2, y3, y4⟩ := flRun_Z fA now
    have cx1 := x4.cx hs cx
    have at1 : shF (shSetF q (rcN r) (flRun (shF q (rcN r)) now).2) (rcN r) = (flRun (shF q (rcN r)) now).2 := setF_at1 _ _ _
    rw [← eE] at r4 r7
    rw [← eP] at r7
    obtain ⟨h2, t1, t2, t3⟩ := c_takeS (vs := vs) (now := now) w hs x3 (n := rcN r) hn (by rw [at1]; exact p1) (by rw [at1, y3]; exact G2) (by rw [at1]; exact y3) (by rw [at1]; exact r4) (rcE r) r1 r2 (by rw [at1]; exact r7)
    rw [at1, setF_set1] at t2
    generalize hf2 : flTake (flRun (shF q (rcN r)) now).2 (rcE r) now = f2 at *
    have t2 : shC h2 own s u v (shSetF q (rcN r) f2) := t2
    have cx2 := t3.cx hs cx1
    obtain ⟨⟨⟨oA1, -, r7011, -, -, r7041, -⟩, -, ⟨o21, l21, q21⟩, -, -⟩, -⟩ := id x3
    obtain ⟨⟨⟨oA2, -, r7012, -, -, r7042, -, r7062⟩, -, ⟨o22, l22, q22⟩, -, o42⟩, -⟩ := id t2
    have oW1 : isO h1 (wfA s (rcN r)) 10 := (x3.2.2.2.1 _ m1).1.1.1
    have oW2 : isO h2 (wfA s (rcN r)) 10 := (t2.2.2.2.1 _ m1).1.1.1
    have qn1 : zQ h1 (shA s + 2) (rcN r) = wfA s (rcN r) := q21 _ m1
    have qn2 : zQ h2 (shA s + 2) (rcN r) = wfA s (rcN r) := q22 _ m1
    obtain ⟨oD1, -, -, -, -, -, w111⟩ := c_head (q := shSetF q (rcN r) (flRun (shF q (rcN r)) now).2) x3 hl hT hL hk hr
    obtain ⟨-, -, -, oC1, eC1⟩ := id cx1
    have wf2 : wfC h2 (wfA s (rcN r)) (s + 4 * rcN r) f2 := by
      have := t2.2.2.2.1 _ m1
      rw [setF_at1] at this
      exact this
    have fE : flE f2 = flE (shF q (rcN r)) ++ [rcE r] := by rw [← hf2]; rfl
    have fl : (flE f2).length = (flE (shF q (rcN r))).length + 1 := by rw [fE, List.length_append, List.length_singleton]
    have im := c_isMessage wf2.1 wf2.2.1 (by omega) (k := rcK r) (by omega)
    have im : f_X9_isMessage (wfA s (rcN r)) (nI (rcK r)) h2 = some (if isMsg f2 (rcK r) = true then 1 else 0, h2) := im
    have t1 : f_X9_take (wfA s (rcN r)) (nI (rcK r)) (rcA r) (rcB r) (rcC r) now h1 = some h2 := t1
    have r1002 := wf2.1.1.2.2.2.1
    have oH : isO h2 (wfA s (rcN r) + 2) 2 := wf2.1.2.2.1.1
    have e204 : zI h2 204 (wfA s (rcN r) + 2) = nI (flE f2).length := wf2.2.1.1.1
    have e2 : shRead vs now q kk r = if isMsg f2 (rcK r) then shSetO (shSetF q (rcN r) f2) (shO q ++ [(kk, rcN r, (flE f2).length - 1)]) else shSetF q (rcN r) f2 := by
      unfold shRead; simp only []; rw [if_neg (by omega), if_neg (by omega), if_neg (by omega), if_pos (by omega)]
      rw [show ((rcK r, rcA r, rcB r, rcC r) : Evt) = rcE r from rfl, hf2]
      rfl
    rw [e2]
    by_cases cm : isMsg f2 (rcK r) = true
    · rw [if_pos cm] at im ⊢
      have ol := (lgV_bound hA).2
      rw [← gA.2.1] at ol
      obtain ⟨h3, own3, v3, s1, s2, s3⟩ := c_sendOb t2 w hs (show (shO q).length ≤ 1000 by omega) (kk, rcN r, (flE f2).length - 1)
      have s1 : f_X2_add (shA s + 4) (nI kk) (nI (rcN r)) (nI ((flE f2).length - 1)) h2 = some h3 := s1
      have sb : nI (flE f2).length - (1 : Int32) = nI ((flE f2).length - 1) := zi_sub (b := 1) (by omega)
      refine ⟨h3, own3, v3, ?_, s2, (x4.tr t3).tr s3⟩
      simp only [f_X6_readLog_15, f_X6_readLog_248, o10, o00, bh, isO, inR, ck_true, bind_some9, Nat.reduceLeDiff, Nat.reduceEqDiff, and_self, and_true, true_and, false_and, and_false, not_false_eq_true, not_true_eq_false, or_self, or_false, false_or, if_true, if_false, reduceIte, zR_pE, zT_pE, zL_pE, zn_pE, zE_pE, zI_pE, zQ_pE, zJ_pE, zR_pI, zT_pI, zL_pI, zn_pI, zE_pI, zI_pI, zQ_pI, zJ_pI, zR_pR, zT_pR, zL_pR, zn_pR, zE_pR, zI_pR, zQ_pR, zJ_pR, zR_pJ, zT_pJ, zL_pJ, zn_pJ, zE_pJ, zI_pJ, zQ_pJ, zJ_pJ, oD, e602, cdiv, c, m16, b0, dv, hd, a3, a7, a11, w3, w7, w11, k0, d0, k14, d14, k15, d15, k13, d13, oA, r704, o2, l2, nn, gn, ln, qn, oW, r701, oC, eC, x1, oA1, r7011, r7041, o21, l21, qn1, oW1, oD1, w111, oC1, eC1, t1, oA2, r7042, o22, l22, qn2, oW2, im, r1002, oH, e204, sb, r7062, o42, s1, zi_one]
    · rw [if_neg cm] at im ⊢
      refine ⟨h2, own, v, ?_, t2, x4.tr t3⟩
      simp only [f_X6_readLog_15, f_X6_readLog_248, o10, o00, bh, isO, inR, ck_true, bind_some9, Nat.reduceLeDiff, Nat.reduceEqDiff, and_self, and_true, true_and, false_and, and_false, not_false_eq_true, not_true_eq_false, or_self, or_false, false_or, if_true, if_false, reduceIte, zR_pE, zT_pE, zL_pE, zn_pE, zE_pE, zI_pE, zQ_pE, zJ_pE, zR_pI, zT_pI, zL_pI, zn_pI, zE_pI, zI_pI, zQ_pI, zJ_pI, zR_pR, zT_pR, zL_pR, zn_pR, zE_pR, zI_pR, zQ_pR, zJ_pR, zR_pJ, zT_pJ, zL_pJ, zn_pJ, zE_pJ, zI_pJ, zQ_pJ, zJ_pJ, oD, e602, cdiv, c, m16, b0, dv, hd, a3, a7, a11, w3, w7, w11, k0, d0, k14, d14, k15, d15, k13, d13, oA, r704, o2, l2, nn, gn, ln, qn, oW, r701, oC, eC, x1, oA1, r7011, r7041, o21, l21, qn1, oW1, oD1, w111, oC1, eC1, t1, oA2, r7042, o22, l22, qn2, oW2, im, zi_one]
/-! THE LOG IS READ, IN THE CLASS -/
def bdF (now : Int32) (F : Nat → Flw) (i : Nat) : Nat → Flw := fun n => if n < i then (flRun (F n) now).2 else F n
theorem bdF_succ (now : Int32) (F : Nat → Flw) (i : Nat) : upf (bdF now F i) i (flRun (F i) now).2 = bdF now F (i + 1) := by
  funext n
  unfold upf bdF
  by_cases c : n = i
  · rw [if_pos c, if_pos (by omega), c]
  · rw [if_neg c]
    by_cases c2 : n < i
    · rw [if_pos c2, if_pos (by omega)]
    · rw [if_neg c2, if_neg (by omega)]
theorem bdF_at (now : Int32) (F : Nat → Flw) (i : Nat) : bdF now F i i = F i := if_neg (Nat.lt_irrefl i)
theorem c_read256 {vs : Nat → List Prg} {now : Int32} {s v : Nat} {own u : Nat → Nat} {q : Shd} {A : List Rec} (hv : vsOK vs) (hs : s < 4) (hA : lgV vs A) (gA : stA vs (lgB A) q) : ∀ (m i fuel : Nat) (h : Hp), cxC h own vs now → shC h own s u v (shZ q, shL q, shT q, shD q, shN q, bdF now (shF q) i, shO q, shQ q) → i + m = shN q → m < fuel → ∃ h1, f_X6_readLog_256 fuel (shA s) (nI i) h = some h1 ∧ shC h1 own s u v (shZ q, shL q, shT q, shD q, shN q, bdF now (shF q) (shN q), shO q, shQ q) ∧ acC s h own u v h1 own u v
  | m, i, 0, h, _, _, _, hf => absurd hf (Nat.not_lt_zero _)
  | 0, i, fuel + 1, h, cx, k, hi, hf => by
    have hN := k.2.2.2.2.1.1
    have hN : shN q ≤ 16 := hN
    have e10 : zI h 710 (shA s) = nI (shN q) := k.2.1.2.2.2.1
    have c : nI (shN q) ≤ nI i := (zi_le (by omega) (by omega)).mpr (by omega)
    have oA := k.1.1.1
    have ei : i = shN q := by omega
    refine ⟨h, ?_, by rw [ei] at k; exact k, acC.rf s h own u v⟩
    simp only [f_X6_readLog_256, o10, o00, bh, isO, inR, ck_true, bind_some9, Nat.reduceLeDiff, Nat.reduceEqDiff, and_self, and_true, true_and, false_and, and_false, not_false_eq_true, not_true_eq_false, or_self, or_false, false_or, if_true, if_false, reduceIte, zR_pE, zT_pE, zL_pE, zn_pE, zE_pE, zI_pE, zQ_pE, zJ_pE, zR_pI, zT_pI, zL_pI, zn_pI, zE_pI, zI_pI, zQ_pI, zJ_pI, zR_pR, zT_pR, zL_pR, zn_pR, zE_pR, zI_pR, zQ_pR, zJ_pR, zR_pJ, zT_pJ, zL_pJ, zn_pJ, zE_pJ, zI_pJ, zQ_pJ, zJ_pJ, oA, e10, c]
  | m + 1, i, fuel + 1, h, cx, k, hi, hf => by
    have hN := k.2.2.2.2.1.1
    have hN : shN q ≤ 16 := hN
    have e10 : zI h 710 (shA s) = nI (shN q) := k.2.1.2.2.2.1
    have c : (nI (shN q) ≤ nI i) = False := eq_false (zi_le0 (by omega) (by omega) (by omega))
    obtain ⟨w, hz, vq, oC, eC⟩ := id cx
    have hn : i < shN q := by omega
    obtain ⟨p1, l0, ko, G, -⟩ := rd_ok hv hA gA hn
    obtain ⟨⟨⟨oA, -, r701, -, -, r704, -⟩, -, ⟨o2, l2, q2⟩, -, -⟩, -⟩ := id k
    have at1 : bdF now (shF q) i i = shF q i := bdF_at now _ i
    obtain ⟨r1, h1, x1, -, x3, x4⟩ := c_runS (vs := vs) (now := now) (n := i) w hs k hn (by show prgOK (flP (bdF now (shF q) i i)); rw [at1]; exact p1) (by show 0 < (flE (bdF now (shF q) i i)).length; rw [at1]; exact l0) (by show kOK (flE (bdF now (shF q) i i)); rw [at1]; exact ko) (by show wkG (flP (bdF now (shF q) i i)) (flE (bdF now (shF q) i i)) (flW (bdF now (shF q) i i)); rw [at1]; exact G)
    have x3 : shC h1 own s u v (shZ q, shL q, shT q, shD q, shN q, upf (bdF now (shF q) i) i (flRun (bdF now (shF q) i i) now).2, shO q, shQ q) := x3
    rw [at1, bdF_succ] at x3
    obtain ⟨h2, y1, y2, y3⟩ := c_read256 hv hs hA gA m (i + 1) fuel h1 (x4.cx hs cx) x3 (by omega) (by omega)
    have nn : (nI i).toNatClampNeg = i := zi_nat (by omega)
    have gn : ¬ nI i < 0 := zi_neg (by omega)
    have ln : ¬ 16 ≤ i := by omega
    have qn : zQ h (shA s + 2) i = wfA s i := q2 _ (by omega)
    have oW : isO h (wfA s i) 10 := (k.2.2.2.1 i (by omega)).1.1.1
    refine ⟨h2, ?_, y2, x4.tr y3⟩
    rw [← y1]
    simp only [f_X6_readLog_256, o10, o00, bh, isO, inR, ck_true, bind_some9, Nat.reduceLeDiff, Nat.reduceEqDiff, and_self, and_true, true_and, false_and, and_false, not_false_eq_true, not_true_eq_false, or_self, or_false, false_or, if_true, if_false, reduceIte, zR_pE, zT_pE, zL_pE, zn_pE, zE_pE, zI_pE, zQ_pE, zJ_pE, zR_pI, zT_pI, zL_pI, zn_pI, zE_pI, zI_pI, zQ_pI, zJ_pI, zR_pR, zT_pR, zL_pR, zn_pR, zE_pR, zI_pR, zQ_pR, zJ_pR, zR_pJ, zT_pJ, zL_pJ, zn_pJ, zE_pJ, zI_pJ, zQ_pJ, zJ_pJ, oA, e10, c, r704, o2, l2, nn, gn, ln, qn, oW, r701, oC, eC, x1, zi_one]
theorem c_read15 {vs : Nat → List Prg} {now : Int32} {s l : Nat} {u : Nat → Nat} {L : List Rec} {g0 : Shd} (hv : vsOK vs) (hs : s < 4) (hl : l < 5) (hT : dkT (shD g0 l) = 0) (hL : L.length ≤ 10000) (eL : dkL (shD g0 l) = L) (hV : lgV vs L) (s0 : stA vs (lgB []) g0) (k0 : stK g0) : ∀ (m k fuel : Nat) (h : Hp) (own : Nat → Nat) (v : Nat), cxC h own vs now → shC h own s u v (shReads vs now 0 (L.take k) g0) → k + m = L.length → m < fuel → ∃ h1 own1 v1, f_X6_readLog_15 fuel (shA s) (shA s + (8 + 2 * l)) (nI k) h = some h1 ∧ shC h1 own1 s u v1 (shZ (shReads vs now 0 L g0), shL (shReads vs now 0 L g0), shT (shReads vs now 0 L g0), shD (shReads vs now 0 L g0), shN (shReads vs now 0 L g0), fun n => if n < shN (shReads vs now 0 L g0) then (flRun (shF (shReads vs now 0 L g0) n) now).2 else shF (shReads vs now 0 L g0) n, shO (shReads vs now 0 L g0), shQ (shReads vs now 0 L g0)) ∧ acC s h own u v h1 own1 u v1
  | m, k, 0, h, own, v, _, _, _, hf => absurd hf (Nat.not_lt_zero _)
  | 0, k, fuel + 1, h, own, v, cx, kk, hk, hf => by
    have ek : k = L.length := by omega
    rw [ek, List.take_length] at kk
    have sA := (shReads_st now hV L [] g0 rfl s0 k0).1
    have sA : stA vs (lgB L) (shReads vs now 0 L g0) := sA
    obtain ⟨-, -, -, eD, -⟩ := shReads_same vs now L 0 g0
    generalize shReads vs now 0 L g0 = q at *
    have bz : bdF now (shF q) 0 = shF q := by
      funext n
      exact if_neg (Nat.not_lt_zero n)
    have hN := kk.2.2.2.2.1.1
    obtain ⟨h1, x1, x2, x3⟩ := c_read256 (now := now) hv hs hV sA (shN q) 0 fz h cx (by rw [bz]; exact kk) (by omega) (fz_big (by omega))
    have x1 : f_X6_readLog_256 fz (shA s) 0 h = some h1 := x1
    refine ⟨h1, own, v, ?_, x2, x3⟩
    obtain ⟨B, y, -, -⟩ := kk.2.2.1 l hl
    have oD := y.1.1
    have e602 := y.1.2.2.2.1.1
    rw [eD] at e602
    have cdiv : nI (dkSz (shD g0 l)) / (16 : Int32) = nI L.length := by
      have : nI (dkSz (shD g0 l)) / nI 16 = nI (dkSz (shD g0 l) / 16) := zi_div (by unfold dkSz; rw [eL]; omega) (by omega) (by omega)
      rw [show (16 : Int32) = nI 16 from rfl, this]
      congr 1
      unfold dkSz
      rw [eL]
      omega
    have c : nI L.length ≤ nI k := (zi_le (by omega) (by omega)).mpr (by omega)
    simp only [f_X6_readLog_15, o10, o00, bh, isO, inR, ck_true, bind_some9, Nat.reduceLeDiff, Nat.reduceEqDiff, and_self, and_true, true_and, false_and, and_false, not_false_eq_true, not_true_eq_false, or_self, or_false, false_or, if_true, if_false, reduceIte, zR_pE, zT_pE, zL_pE, zn_pE, zE_pE, zI_pE, zQ_pE, zJ_pE, zR_pI, zT_pI, zL_pI, zn_pI, zE_pI, zI_pI, zQ_pI, zJ_pI, zR_pR, zT_pR, zL_pR, zn_pR, zE_pR, zI_pR, zQ_pR, zJ_pR, zR_pJ, zT_pJ, zL_pJ, zn_pJ, zE_pJ, zI_pJ, zQ_pJ, zJ_pJ, oD, e602, cdiv, c, x1]
  | m + 1, k, fuel + 1, h, own, v, cx, kk, hk, hf => by
    have hkL : k < L.length := by omega
    have hr : L[k]? = some (L[k]'hkL) := List.getElem?_eq_getElem hkL
    have hgd : L.getD k r0 = L[k]'hkL := by rw [List.getD_eq_getElem?_getD, hr]; rfl
    generalize L[k]'hkL = r at *
    have et : L.take k ++ [r] = L.take (k + 1) := by rw [List.take_add_one, hr]; rfl
    have pre : L.take k ++ [r] <+: L := by rw [et]; exact List.take_prefix _ _
    have lt : (L.take k).length = k := by rw [List.length_take]; omega
    have hVk : lgV vs (L.take k) := lgV_pre vs _ L (List.take_prefix _ _) hV
    have sA := (shReads_st now hVk (L.take k) [] g0 rfl s0 k0).1
    have sA : stA vs (lgB (L.take k)) (shReads vs now 0 (L.take k) g0) := sA
    obtain ⟨-, -, -, eD, -⟩ := shReads_same vs now (L.take k) 0 g0
    have es : shRead vs now (shReads vs now 0 (L.take k) g0) k r = shReads vs now 0 (L.take (k + 1)) g0 := by
      rw [← et, shReads_snoc, Nat.zero_add, lt]
    obtain ⟨h1, own1, v1, x1, x2, x3⟩ := c_read (fuel := fuel) (kk := k) (r := r) hv hs cx kk hl (by rw [eD]; exact hT) (by rw [eD, eL]; exact hL) (by rw [eD, eL]; exact hkL) (by rw [eD, eL]; exact hgd) hVk (hV _ _ pre) sA
    rw [es] at x2
    obtain ⟨h2, own2, v2, y1, y2, y3⟩ := c_read15 hv hs hl hT hL eL hV s0 k0 m (k + 1) fuel h1 own1 v1 (x3.cx hs cx) x2 (by omega) (by omega)
    exact ⟨h2, own2, v2, x1.trans y1, y2, x3.tr y3⟩
theorem c_readLog {vs : Nat → List Prg} {now : Int32} {s l : Nat} (hv : vsOK vs) (hs : s < 4) {h : Hp} {own u : Nat → Nat} {v : Nat} {q : Shd} (cx : cxC h own vs now) (k : shC h own s u v q) (hL : shL q = nI l) (hl : l < 5) (hT : dkT (shD q l) = 0) (hlen : (dkL (shD q l)).length ≤ 10000) (hV : lgV vs (dkL (shD q l))) : ∃ h1 own1 v1, f_X6_readLog (shA s) (shA s + (8 + 2 * l)) h = some h1 ∧ shC h1 own1 s u v1 (shBuild vs now q) ∧ acC s h own u v h1 own1 u v1 := by
  obtain ⟨w, hz, -⟩ := id cx
  obtain ⟨⟨⟨oA, -, r701, -, -, r704, -, r706⟩, -, -, -, o4⟩, ⟨e7, e8, e9, e10, e11⟩, -⟩ := id k
  have nl : (nI l).toNatClampNeg = l := zi_nat (by omega)
  have eLog : shLog q = dkL (shD q l) := by unfold shLog; rw [hL, nl]
  have ownA : own (shA s) = 10 * s + 8 := ow_at (o := 0) w hs (by omega) (by omega) (by omega)
  have own4 : own (shA s + 4) = 10 * s + 8 := ow_at w hs (by omega) (by omega) (by omega)
  have f1 : cf (fun a j => a = shA s ∧ 707 ≤ j ∧ j ≤ 711) h (pI h 710 (shA s) 0) := cf_pI ⟨rfl, by omega, by omega⟩
  have k1 : shC (pI h 710 (shA s) 0) own s u v (shZ q, shL q, shT q, shD q, 0, shF q, shO q, shQ q) := by
    refine k.sc w hs f1 ⟨?_, ?_, ?_, ?_, e11⟩ rfl rfl rfl (Nat.zero_le _)
    · rw [zI_pI, if_neg (by omega)]; exact e7
    · rw [zI_pI, if_neg (by omega)]; exact e8
    · rw [zI_pI, if_neg (by omega)]; exact e9
    · rw [zI_pI, if_pos ⟨rfl, rfl⟩]; rfl
  generalize hg1 : pI h 710 (shA s) 0 = g1 at *
  have n1 : nz h g1 := by rw [← hg1]; exact rfl
  obtain ⟨a, b, c, R, ow, v1, v2, vl⟩ := k1.2.2.2.2.2.R w hs k1.1.2.2.2.2
  have f2 : cf (obX (shA s + 4) a b c) g1 (pI g1 303 (shA s + 4) 0) := cf_pI (Or.inl ⟨rfl, by omega, by omega⟩)
  have hS : ∀ x j, obX (shA s + 4) a b c x j → x = shA s + 4 ∨ own x = 10 * s + 5 ∨ own x = 10 * s + 6 ∨ own x = 10 * s + 7 := fun x j z => by
    rcases z with z | z | z | z
    · exact Or.inl z.1
    · rw [z]; exact Or.inr (Or.inl ow.1)
    · rw [z]; exact Or.inr (Or.inr (Or.inl ow.2.1))
    · rw [z]; exact Or.inr (Or.inr (Or.inr ow.2.2))
  have R2 : obR (pI g1 303 (shA s + 4) 0) (shA s + 4) a b c (16 * v) [] := by
    obtain ⟨⟨s1, s2, s3, s4⟩, ⟨s5, s6, s7⟩, s8, s9, -, -⟩ := R
    refine ⟨⟨s1, s2, s3, s4⟩, ⟨s5, s6, s7⟩, s8, s9, ?_, fun k m hk => by simp at hk⟩
    rw [zI_pI, if_pos ⟨rfl, rfl⟩]
    rfl
  have k2 := k1.ob w hs f2 (exO.rf own g1) hS (obC_of R2 ow v1 v2 (Nat.zero_le _))
  have oA1 := k1.1.1.1
  have r7061 := k1.1.1.2.2.2.2.2.2.2
  have o41 := k1.1.2.2.2.2
  generalize hg2 : pI g1 303 (shA s + 4) 0 = g2 at *
  have n2 : nz g1 g2 := by rw [← hg2]; exact rfl
  have ac1 : acC s h own u v g1 own u v := acC.nz (f1.mono (fun x j _ z => by rw [z.1, ownA]; omega)) n1
  have ac2 : acC s g1 own u v g2 own u v := acC.nz (f2.mono (fun x j _ z => by
    rcases hS x j z with z | z | z | z
    · rw [z, own4]; omega
    · rw [z]; omega
    · rw [z]; omega
    · rw [z]; omega)) n2
  have ac := ac1.tr ac2
  obtain ⟨h3, own3, v3, x1, x2, x3⟩ := c_read15 (now := now) (g0 := (shZ q, shL q, shT q, shD q, 0, shF q, [], shQ q)) (L := dkL (shD q l)) hv hs hl hT hlen rfl hV ⟨rfl, rfl, fun n hn => absurd hn (Nat.not_lt_zero _)⟩ (fun n hn => absurd hn (Nat.not_lt_zero _)) (dkL (shD q l)).length 0 fz g2 own v (ac.cx hs cx) k2 (by omega) (fz_big (by omega))
  have x1 : f_X6_readLog_15 fz (shA s) (shA s + (8 + 2 * l)) 0 g2 = some h3 := x1
  refine ⟨h3, own3, v3, ?_, ?_, ac.tr x3⟩
  · simp only [f_X6_readLog, o10, o00, bh, isO, inR, ck_true, bind_some9, Nat.reduceLeDiff, Nat.reduceEqDiff, and_self, and_true, true_and, false_and, and_false, not_false_eq_true, not_true_eq_false, or_self, or_false, false_or, if_true, if_false, reduceIte, zR_pE, zT_pE, zL_pE, zn_pE, zE_pE, zI_pE, zQ_pE, zJ_pE, zR_pI, zT_pI, zL_pI, zn_pI, zE_pI, zI_pI, zQ_pI, zJ_pI, zR_pR, zT_pR, zL_pR, zn_pR, zE_pR, zI_pR, zQ_pR, zJ_pR, zR_pJ, zT_pJ, zL_pJ, zn_pJ, zE_pJ, zI_pJ, zQ_pJ, zJ_pJ, oA, hg1, r7061, o41, hg2, x1]
  · have eB : shBuild vs now q = (shZ (shReads vs now 0 (shLog q) (shZ q, shL q, shT q, shD q, 0, shF q, [], shQ q)), shL (shReads vs now 0 (shLog q) (shZ q, shL q, shT q, shD q, 0, shF q, [], shQ q)), shT (shReads vs now 0 (shLog q) (shZ q, shL q, shT q, shD q, 0, shF q, [], shQ q)), shD (shReads vs now 0 (shLog q) (shZ q, shL q, shT q, shD q, 0, shF q, [], shQ q)), shN (shReads vs now 0 (shLog q) (shZ q, shL q, shT q, shD q, 0, shF q, [], shQ q)), fun n => if n < shN (shReads vs now 0 (shLog q) (shZ q, shL q, shT q, shD q, 0, shF q, [], shQ q)) then (flRun (shF (shReads vs now 0 (shLog q) (shZ q, shL q, shT q, shD q, 0, shF q, [], shQ q)) n) now).2 else shF (shReads vs now 0 (shLog q) (shZ q, shL q, shT q, shD q, 0, shF q, [], shQ q)) n, shO (shReads vs now 0 (shLog q) (shZ q, shL q, shT q, shD q, 0, shF q, [], shQ q)), shQ (shReads vs now 0 (shLog q) (shZ q, shL q, shT q, shD q, 0, shF q, [], shQ q))) := rfl
    rw [eB, eLog]
    exact x2
/-! ELECTIONS UNTIL ONE HOLDS, IN THE CLASS -/
theorem c_rows {vs : Nat → List Prg} {now : Int32} {K s : Nat} {K2 : Nat → Int32 → Hp → Option Hp} {l1 : Int32} (hv : vsOK vs) (hs : s < 4) (hK : K ≤ 2000) : ∀ (k n fuel : Nat) (h : Hp) (own u : Nat → Nat) (v : Nat) (q : Shd) (C : List Rec), cxC h own vs now → shC h own s u v q → ShI vs q C → shY q ≤ lgW C + K → shL q ≠ -1 → n + k = shN q → k < fuel → ∃ h1 own1 u1 v1, f_X6_settle_43 K2 fuel (shA s) l1 (nI n) h = K2 (shA s) (l1 + 1) h1 ∧ shC h1 own1 s u1 v1 (shAll now k n q) ∧ acC s h own u v h1 own1 u1 v1
  | k, n, 0, h, own, u, v, q, C, _, _, _, _, _, _, hf => absurd hf (Nat.not_lt_zero _)
  | 0, n, fuel + 1, h, own, u, v, q, C, cx, k, hI, hY, hl, hn, hf => by
    have hN := k.2.2.2.2.1.1
    have e10 : zI h 710 (shA s) = nI (shN q) := k.2.1.2.2.2.1
    have c : nI (shN q) ≤ nI n := (zi_le (by omega) (by omega)).mpr (by omega)
    have oA := k.1.1.1
    refine ⟨h, own, u, v, ?_, k, acC.rf s h own u v⟩
    simp only [f_X6_settle_43, f_X6_settle_74, o10, o00, bh, isO, inR, ck_true, bind_some9, Nat.reduceLeDiff, Nat.reduceEqDiff, and_self, and_true, true_and, false_and, and_false, not_false_eq_true, not_true_eq_false, or_self, or_false, false_or, if_true, if_false, reduceIte, zR_pE, zT_pE, zL_pE, zn_pE, zE_pE, zI_pE, zQ_pE, zJ_pE, zR_pI, zT_pI, zL_pI, zn_pI, zE_pI, zI_pI, zQ_pI, zJ_pI, zR_pR, zT_pR, zL_pR, zn_pR, zE_pR, zI_pR, zQ_pR, zJ_pR, zR_pJ, zT_pJ, zL_pJ, zn_pJ, zE_pJ, zI_pJ, zQ_pJ, zJ_pJ, oA, e10, c]
  | i + 1, n, fuel + 1, h, own, u, v, q, C, cx, k, hI, hY, hl, hn, hf => by
    have hN := k.2.2.2.2.1.1
    have e10 : zI h 710 (shA s) = nI (shN q) := k.2.1.2.2.2.1
    have c : (nI (shN q) ≤ nI n) = False := eq_false (zi_le0 (by omega) (by omega) (by omega))
    have hnq : n < shN q := by omega
    have wk := c_works k
    rw [if_neg hl] at wk
    obtain ⟨⟨⟨oA, -, -, -, -, r704, -⟩, -, ⟨o2, l2, q2⟩, -, -⟩, -⟩ := id k
    have nn : (nI n).toNatClampNeg = n := zi_nat (by omega)
    have gn : ¬ nI n < 0 := zi_neg (by omega)
    have ln : ¬ 16 ≤ n := by omega
    have qn : zQ h (shA s + 2) n = wfA s n := q2 _ (by omega)
    have e : shAll now (i + 1) n q = shAll now i (n + 1) (shGo now q n) := by
      show (if shWorks q = false then q else _) = _
      rw [if_neg (by unfold shWorks; rw [decide_eq_true hl]; exact fun q => Bool.noConfusion q)]
    rw [e]
    obtain ⟨E, b1, b2, b3, b4, b5⟩ := shGo_I now hI hl hnq
    obtain ⟨h1, own1, u1, v1, x1, x2, x3⟩ := c_goOn hv hs hK cx k hI hY hl hnq
    have step : f_X6_settle_43 K2 (fuel + 1) (shA s) l1 (nI n) h = f_X6_settle_43 K2 fuel (shA s) l1 (nI (n + 1)) h1 := by
      simp only [f_X6_settle_43, f_X6_settle_74, o10, o00, bh, isO, inR, ck_true, bind_some9, Nat.reduceLeDiff, Nat.reduceEqDiff, and_self, and_true, true_and, false_and, and_false, not_false_eq_true, not_true_eq_false, or_self, or_false, false_or, if_true, if_false, reduceIte, zR_pE, zT_pE, zL_pE, zn_pE, zE_pE, zI_pE, zQ_pE, zJ_pE, zR_pI, zT_pI, zL_pI, zn_pI, zE_pI, zI_pI, zQ_pI, zJ_pI, zR_pR, zT_pR, zL_pR, zn_pR, zE_pR, zI_pR, zQ_pR, zJ_pR, zR_pJ, zT_pJ, zL_pJ, zn_pJ, zE_pJ, zI_pJ, zQ_pJ, zJ_pJ, oA, e10, c, wk, r704, o2, l2, nn, gn, ln, qn, x1, zi_one]
    by_cases cl : shL (shGo now q n) = -1
    · have e2 : shAll now i (n + 1) (shGo now q n) = shGo now q n := by
        cases i with
        | zero => rfl
        | succ k =>
          show (if shWorks (shGo now q n) = false then shGo now q n else _) = _
          rw [if_pos (by unfold shWorks; rw [cl]; rfl)]
      rw [e2]
      refine ⟨h1, own1, u1, v1, ?_, x2, x3⟩
      obtain ⟨fuel, rfl⟩ : ∃ j, fuel = j + 1 := ⟨fuel - 1, by omega⟩
      rw [step]
      have wk1 := c_works x2
      rw [if_pos cl] at wk1
      have oA1 := x2.1.1.1
      have e101 : zI h1 710 (shA s) = nI (shN (shGo now q n)) := x2.2.1.2.2.2.1
      by_cases c1 : nI (shN (shGo now q n)) ≤ nI (n + 1)
      · simp only [f_X6_settle_43, f_X6_settle_74, o10, o00, bh, isO, inR, ck_true, bind_some9, Nat.reduceLeDiff, Nat.reduceEqDiff, and_self, and_true, true_and, false_and, and_false, not_false_eq_true, not_true_eq_false, or_self, or_false, false_or, if_true, if_false, reduceIte, zR_pE, zT_pE, zL_pE, zn_pE, zE_pE, zI_pE, zQ_pE, zJ_pE, zR_pI, zT_pI, zL_pI, zn_pI, zE_pI, zI_pI, zQ_pI, zJ_pI, zR_pR, zT_pR, zL_pR, zn_pR, zE_pR, zI_pR, zQ_pR, zJ_pR, zR_pJ, zT_pJ, zL_pJ, zn_pJ, zE_pJ, zI_pJ, zQ_pJ, zJ_pJ, oA1, e101, c1]
      · simp only [f_X6_settle_43, f_X6_settle_74, o10, o00, bh, isO, inR, ck_true, bind_some9, Nat.reduceLeDiff, Nat.reduceEqDiff, and_self, and_true, true_and, false_and, and_false, not_false_eq_true, not_true_eq_false, or_self, or_false, false_or, if_true, if_false, reduceIte, zR_pE, zT_pE, zL_pE, zn_pE, zE_pE, zI_pE, zQ_pE, zJ_pE, zR_pI, zT_pI, zL_pI, zn_pI, zE_pI, zI_pI, zQ_pI, zJ_pI, zR_pR, zT_pR, zL_pR, zn_pR, zE_pR, zI_pR, zQ_pR, zJ_pR, zR_pJ, zT_pJ, zL_pJ, zn_pJ, zE_pJ, zI_pJ, zQ_pJ, zJ_pJ, oA1, e101, c1, wk1]
    · obtain ⟨h2, own2, u2, v2, y1, y2, y3⟩ := c_rows hv hs hK i (n + 1) fuel h1 own1 u1 v1 (shGo now q n) E (x3.cx hs cx) x2 b1 (Gr.y b2 hY) cl (by omega) (by omega)
      exact ⟨h2, own2, u2, v2, step.trans y1, y2, x3.tr y3⟩
theorem c_elect1 {vs : Nat → List Prg} {now : Int32} {K s fuel : Nat} {l1 : Int32} (hv : vsOK vs) (hs : s < 4) (hK : K ≤ 2000) {h : Hp} {own u : Nat → Nat} {v : Nat} {q : Shd} {C : List Rec} (cx : cxC h own vs now) (k : shC h own s u v q) (hI : ShI vs q C) (hY : shY q ≤ lgW C + K) (hl : shL q = -1) (hm : shMost q = true) (h5 : ¬ (5 : Int32) < l1) : ∃ h1 own1 u1 v1, f_X6_settle_2 (fuel + 1) (shA s) l1 h = f_X6_settle_2 fuel (shA s) (l1 + 1) h1 ∧ shC h1 own1 s u1 v1 (shElect1 vs now q) ∧ acC s h own u v h1 own1 u1 v1 := by
  obtain ⟨c1, c2, c3, c4, c5, c6⟩ := cm_ok hI hY hK
  have wk := c_works k
  rw [if_pos hl] at wk
  have mo := c_most k c1
  rw [if_pos hm] at mo
  have oA := k.1.1.1
  obtain ⟨h1, own1, u1, x1, x2, x3⟩ := c_elect hs hK cx.1 cx.2.1 k hI hY hm
  have e : shElect1 vs now q = if (shElect q).1 = false then (shElect q).2 else shAll now (shN (shBuild vs now (shElect q).2)) 0 (shBuild vs now (shElect q).2) := rfl
  rw [e]
  cases hc : (shElect q).1 with
  | false =>
    rw [hc, if_neg (fun z => Bool.noConfusion z)] at x1
    rw [if_pos rfl]
    refine ⟨h1, own1, u1, v, ?_, x2, x3⟩
    simp only [f_X6_settle_2, f_X6_settle_74, o10, o00, bh, isO, inR, ck_true, bind_some9, Nat.reduceLeDiff, Nat.reduceEqDiff, and_self, and_true, true_and, false_and, and_false, not_false_eq_true, not_true_eq_false, or_self, or_false, false_or, if_true, if_false, reduceIte, zR_pE, zT_pE, zL_pE, zn_pE, zE_pE, zI_pE, zQ_pE, zJ_pE, zR_pI, zT_pI, zL_pI, zn_pI, zE_pI, zI_pI, zQ_pI, zJ_pI, zR_pR, zT_pR, zL_pR, zn_pR, zE_pR, zI_pR, zQ_pR, zJ_pR, zR_pJ, zT_pJ, zL_pJ, zn_pJ, zE_pJ, zI_pJ, zQ_pJ, zJ_pJ, h5, oA, wk, mo, x1]
  | true =>
    rw [hc, if_pos rfl] at x1
    rw [if_neg (show ¬ true = false from fun z => by cases z)]
    obtain ⟨E, e1, e2, e3, e4, e5, e6, e7, -⟩ := (shElect_I hI hl hm).1 hc
    obtain ⟨F, f1, f2, f3⟩ := built_I now hI hl hm hc
    obtain ⟨-, P, Q, -, -, -, -, hW⟩ := id e2
    obtain ⟨l, w, -, hC⟩ := hW e4
    have hlZ := w.1
    have hl5 : l < 5 := by rw [e6] at hlZ; omega
    have d := e3.2.1 l hlZ
    have hT : dkT (shD (shElect q).2 l) = 0 := (d.2.1 w.2.2.1).1
    have eL : dkL (shD (shElect q).2 l) = E := hC.symm
    have hV : lgV vs E := e2.v (lgV_pre vs)
    have cx1 := x3.cx hs cx
    obtain ⟨h2, own2, v2, y1, y2, y3⟩ := c_readLog (now := now) hv hs cx1 x2 w.2.1 hl5 hT (by have := d.1; omega) (by rw [eL]; exact hV)
    have cx2 := y3.cx hs cx1
    obtain ⟨h3, own3, u3, v3, z1, z2, z3⟩ := c_rows (K2 := f_X6_settle_2 fuel) (l1 := l1) hv hs hK (shN (shBuild vs now (shElect q).2)) 0 fz h2 own2 u1 v2 _ F cx2 y2 f1 (Gr.y f2 hY) f3 (by omega) (fz_big (by have := y2.2.2.2.2.1.1; omega))
    have z1 : f_X6_settle_43 (f_X6_settle_2 fuel) fz (shA s) l1 0 h2 = f_X6_settle_2 fuel (shA s) (l1 + 1) h3 := z1
    refine ⟨h3, own3, u3, v3, ?_, z2, (x3.tr y3).tr z3⟩
    rw [← z1]
    obtain ⟨⟨⟨oA1, -, -, -, r7031, -⟩, ⟨o11, l11, q11⟩, -⟩, ⟨-, e81, -⟩, -⟩ := id x2
    rw [w.2.1] at e81
    have nl : (nI l).toNatClampNeg = l := zi_nat (by omega)
    have gl : ¬ nI l < 0 := zi_neg (by omega)
    have ll : ¬ 5 ≤ l := by omega
    have ql := q11 l hl5
    simp only [f_X6_settle_2, f_X6_settle_74, o10, o00, bh, isO, inR, ck_true, bind_some9, Nat.reduceLeDiff, Nat.reduceEqDiff, and_self, and_true, true_and, false_and, and_false, not_false_eq_true, not_true_eq_false, or_self, or_false, false_or, if_true, if_false, reduceIte, zR_pE, zT_pE, zL_pE, zn_pE, zE_pE, zI_pE, zQ_pE, zJ_pE, zR_pI, zT_pI, zL_pI, zn_pI, zE_pI, zI_pI, zQ_pI, zJ_pI, zR_pR, zT_pR, zL_pR, zn_pR, zE_pR, zI_pR, zQ_pR, zJ_pR, zR_pJ, zT_pJ, zL_pJ, zn_pJ, zE_pJ, zI_pJ, zQ_pJ, zJ_pJ, h5, oA, wk, mo, x1, oA1, r7031, o11, e81, l11, nl, gl, ll, ql, y1]
theorem c_settle_go {vs : Nat → List Prg} {now : Int32} {K s : Nat} (hv : vsOK vs) (hs : s < 4) (hK : K ≤ 2000) : ∀ (i fuel : Nat) (h : Hp) (own u : Nat → Nat) (v : Nat) (q : Shd) (C : List Rec), cxC h own vs now → shC h own s u v q → ShI vs q C → shY q ≤ lgW C + K → i ≤ 6 → i < fuel → ∃ h1 own1 u1 v1, f_X6_settle_2 fuel (shA s) (nI (6 - i)) h = some h1 ∧ shC h1 own1 s u1 v1 (shSettle vs now i q) ∧ acC s h own u v h1 own1 u1 v1
  | i, 0, h, own, u, v, q, C, _, _, _, _, _, hf => absurd hf (Nat.not_lt_zero _)
  | 0, fuel + 1, h, own, u, v, q, C, cx, k, hI, hY, hi, hf => by
    refine ⟨h, own, u, v, ?_, k, acC.rf s h own u v⟩
    unfold f_X6_settle_2
    rw [if_pos (show (5 : Int32) < nI (6 - 0) by decide)]
  | i + 1, fuel + 1, h, own, u, v, q, C, cx, k, hI, hY, hi, hf => by
    obtain ⟨c1, c2, c3, c4, c5, c6⟩ := cm_ok hI hY hK
    have h5 : ¬ (5 : Int32) < nI (6 - (i + 1)) := fun z => absurd ((zi_lt (a := 5) (by omega) (by omega)).mp z) (by omega)
    have oA := k.1.1.1
    by_cases cl : shL q = -1
    · cases cm : shMost q with
      | true =>
        rw [shSettle_on vs now i cl cm]
        obtain ⟨h1, own1, u1, v1, x1, x2, x3⟩ := c_elect1 (fuel := fuel) (l1 := nI (6 - (i + 1))) hv hs hK cx k hI hY cl cm h5
        obtain ⟨E, a1, a2, -, -⟩ := shElect1_I now hI cl cm
        obtain ⟨h2, own2, u2, v2, y1, y2, y3⟩ := c_settle_go hv hs hK i fuel h1 own1 u1 v1 _ E (x3.cx hs cx) x2 a1 (Gr.y a2 hY) (by omega) (by omega)
        have e1 : nI (6 - (i + 1)) + (1 : Int32) = nI (6 - i) := by rw [zi_one]; congr 1; omega
        rw [e1] at x1
        exact ⟨h2, own2, u2, v2, x1.trans y1, y2, x3.tr y3⟩
      | false =>
        rw [shSettle_off vs now (i + 1) (Or.inr cm)]
        have wk := c_works k
        rw [if_pos cl] at wk
        have mo := c_most k c1
        rw [cm, if_neg (fun z => Bool.noConfusion z)] at mo
        refine ⟨h, own, u, v, ?_, k, acC.rf s h own u v⟩
        simp only [f_X6_settle_2, o10, o00, bh, isO, inR, ck_true, bind_some9, Nat.reduceLeDiff, Nat.reduceEqDiff, and_self, and_true, true_and, false_and, and_false, not_false_eq_true, not_true_eq_false, or_self, or_false, false_or, if_true, if_false, reduceIte, zR_pE, zT_pE, zL_pE, zn_pE, zE_pE, zI_pE, zQ_pE, zJ_pE, zR_pI, zT_pI, zL_pI, zn_pI, zE_pI, zI_pI, zQ_pI, zJ_pI, zR_pR, zT_pR, zL_pR, zn_pR, zE_pR, zI_pR, zQ_pR, zJ_pR, zR_pJ, zT_pJ, zL_pJ, zn_pJ, zE_pJ, zI_pJ, zQ_pJ, zJ_pJ, h5, oA, wk, mo]
    · rw [shSettle_off vs now (i + 1) (Or.inl cl)]
      have wk := c_works k
      rw [if_neg cl] at wk
      refine ⟨h, own, u, v, ?_, k, acC.rf s h own u v⟩
      simp only [f_X6_settle_2, o10, o00, bh, isO, inR, ck_true, bind_some9, Nat.reduceLeDiff, Nat.reduceEqDiff, and_self, and_true, true_and, false_and, and_false, not_false_eq_true, not_true_eq_false, or_self, or_false, false_or, if_true, if_false, reduceIte, zR_pE, zT_pE, zL_pE, zn_pE, zE_pE, zI_pE, zQ_pE, zJ_pE, zR_pI, zT_pI, zL_pI, zn_pI, zE_pI, zI_pI, zQ_pI, zJ_pI, zR_pR, zT_pR, zL_pR, zn_pR, zE_pR, zI_pR, zQ_pR, zJ_pR, zR_pJ, zT_pJ, zL_pJ, zn_pJ, zE_pJ, zI_pJ, zQ_pJ, zJ_pJ, h5, oA, wk]
theorem c_settle {vs : Nat → List Prg} {now : Int32} {K s : Nat} (hv : vsOK vs) (hs : s < 4) (hK : K ≤ 2000) {h : Hp} {own u : Nat → Nat} {v : Nat} {q : Shd} {C : List Rec} (cx : cxC h own vs now) (k : shC h own s u v q) (hI : ShI vs q C) (hY : shY q ≤ lgW C + K) : ∃ h1 own1 u1 v1, f_X6_settle (shA s) h = some h1 ∧ shC h1 own1 s u1 v1 (stl vs now q) ∧ acC s h own u v h1 own1 u1 v1 := by
  obtain ⟨h1, own1, u1, v1, x1, x2, x3⟩ := c_settle_go hv hs hK 6 fz h own u v q C cx k hI hY (Nat.le_refl _) (fz_big (by omega))
  exact ⟨h1, own1, u1, v1, x1, x2, x3⟩
/-! WHAT IS BROUGHT, AND TIME, IN THE CLASS -/
section Br
variable {vs : Nat → List Prg} {now : Int32} {K s : Nat} {h : Hp} {own u : Nat → Nat} {v : Nat} {q : Shd} {C : List Rec}
/-- something that is done, and the elections behind it -/
def donC (vs : Nat → List Prg) (now : Int32) (s : Nat) (h : Hp) (own u : Nat → Nat) (v : Nat) (q1 : Shd) (h1 : Hp) : Prop := isO h1 (shA s) 7 ∧ ∃ h2 own2 u2 v2, f_X6_settle (shA s) h1 = some h2 ∧ shC h2 own2 s u2 v2 (stl vs now q1) ∧ acC s h own u v h2 own2 u2 v2
theorem donC_of (hv : vsOK vs) (hs : s < 4) (hK : K ≤ 2000) (cx : cxC h own vs now) {q1 : Shd} {E : List Rec} (hI : ShI vs q1 E) (hY : shY q1 ≤ lgW E + K) {h1 : Hp} {own1 u1 : Nat → Nat} {v1 : Nat} (x2 : shC h1 own1 s u1 v1 q1) (x3 : acC s h own u v h1 own1 u1 v1) : donC vs now s h own u v q1 h1 := by
  obtain ⟨h2, own2, u2, v2, y1, y2, y3⟩ := c_settle hv hs hK (x3.cx hs cx) x2 hI hY
  exact ⟨x2.1.1.1, h2, own2, u2, v2, y1, y2, x3.tr y3⟩
theorem c_bringS (hv : vsOK vs) (hs : s < 4) (hK : K ≤ 2000) (cx : cxC h own vs now) (k : shC h own s u v q) (hI : ShI vs q C) (hY : shY q ≤ lgW C + K) (hl : shL q ≠ -1) {n kd : Nat} (hn : n < shN q) {a b o : Int32} (ok : evOK (flP (shF q n)) (flE (shF q n)) (kd, a, b, o)) : ∃ h1, f_X6_bring (shA s) (wfA s n) (nI kd) a b o h = some (if (shBring now q n kd a b o).1 = true then 1 else 0, h1) ∧ donC vs now s h own u v (shBring now q n kd a b o).2 h1 := by
  obtain ⟨h1, own1, u1, v1, x1, x2, x3⟩ := c_bring hv hs hK cx k hI hY hl hn ok
  obtain ⟨E, a1, a2, -⟩ := shBring_I now hI hl hn ok
  exact ⟨h1, x1, donC_of hv hs hK cx a1 (Gr.y a2 hY) x2 x3⟩
theorem c_failS (hv : vsOK vs) (hs : s < 4) (hK : K ≤ 2000) (cx : cxC h own vs now) (k : shC h own s u v q) (hI : ShI vs q C) (hY : shY q ≤ lgW C + K) (hl : shL q ≠ -1) {n : Nat} (hn : n < shN q) (h0 : wkP (flW (shF q n)) = 0) (hk : flK (shF q n) ≠ 0) : ∃ h1, f_X6_failTask (shA s) (wfA s n) h = some (if (shFail now q n).1 = true then 1 else 0, h1) ∧ donC vs now s h own u v (shFail now q n).2 h1 := by
  obtain ⟨h1, own1, u1, v1, x1, x2, x3⟩ := c_failTask hv hs hK cx k hI hY hl hn h0
  obtain ⟨E, a1, a2, -⟩ := shFail_I now hI hl hn h0 hk
  exact ⟨h1, x1, donC_of hv hs hK cx a1 (Gr.y a2 hY) x2 x3⟩
theorem c_beginS (hv : vsOK vs) (hs : s < 4) (hK : K ≤ 2000) (cx : cxC h own vs now) (k : shC h own s u v q) (hI : ShI vs q C) (hY : shY q ≤ lgW C + K) (hl : shL q ≠ -1) (hN : shN q < 16) {p : Nat} (hp : p < 8) (hne : vs p ≠ []) (x o : Int32) : ∃ h1, f_X6_begin (shA s) (nI p) x o h = some (if (shBegin vs now q p x o).1 = true then 1 else 0, h1) ∧ donC vs now s h own u v (shBegin vs now q p x o).2 h1 := by
  obtain ⟨h1, own1, u1, v1, x1, x2, x3⟩ := c_begin hv hs hK cx k hI hY hl hN hp hne x o
  obtain ⟨E, a1, a2, -⟩ := shBegin_I hv now hI hl hN hp hne x o
  exact ⟨h1, x1, donC_of hv hs hK cx a1 (Gr.y a2 hY) x2 x3⟩
theorem c_forgetS (hv : vsOK vs) (hs : s < 4) (hK : K ≤ 2000) (cx : cxC h own vs now) (k : shC h own s u v q) (hI : ShI vs q C) (hY : shY q ≤ lgW C + K) (hl : shL q ≠ -1) {p : Nat} (hp : ∃ m ∈ shO q, m.1 = p) (hp6 : p < 1000000) (hO : ∀ m ∈ shO q, m.1 < 1000000) : ∃ h1, f_X6_forget (shA s) (nI p) h = some h1 ∧ donC vs now s h own u v (shForget q p) h1 := by
  obtain ⟨h1, own1, u1, v1, x1, x2, x3⟩ := c_forget hs hK cx k hI hY hp6 hO
  obtain ⟨c1, c2, c3, c4, c5, c6⟩ := cm_ok hI hY hK
  obtain ⟨E, a1, a2, -⟩ := shForget_I hI hl hp (by omega)
  exact ⟨h1, x1, donC_of hv hs hK cx a1 (Gr.y a2 hY) x2 x3⟩
end Br
theorem c_fire {vs : Nat → List Prg} {now : Int32} {K s : Nat} (hv : vsOK vs) (hs : s < 4) (hK : K ≤ 2000) : ∀ (k n fuel : Nat) (h : Hp) (own u : Nat → Nat) (v : Nat) (q : Shd) (C : List Rec), cxC h own vs now → shC h own s u v q → ShS vs q C → shY q ≤ lgW C + K → n + k = 17 → k < fuel → ∃ h1 own1 u1 v1, f_X6_passTime_2 fuel (shA s) (nI n) h = f_X6_passTime_80 (shA s) h1 ∧ shC h1 own1 s u1 v1 (shFire vs now k n q) ∧ acC s h own u v h1 own1 u1 v1
  | k, n, 0, h, own, u, v, q, C, _, _, _, _, _, hf => absurd hf (Nat.not_lt_zero _)
  | 0, n, fuel + 1, h, own, u, v, q, C, cx, k, hI, hY, hn, hf => by
    have hN := k.2.2.2.2.1.1
    have e10 : zI h 710 (shA s) = nI (shN q) := k.2.1.2.2.2.1
    have c : nI (shN q) ≤ nI n := (zi_le (by omega) (by omega)).mpr (by omega)
    have oA := k.1.1.1
    refine ⟨h, own, u, v, ?_, k, acC.rf s h own u v⟩
    simp only [f_X6_passTime_2, o10, o00, bh, isO, inR, ck_true, bind_some9, Nat.reduceLeDiff, Nat.reduceEqDiff, and_self, and_true, true_and, false_and, and_false, not_false_eq_true, not_true_eq_false, or_self, or_false, false_or, if_true, if_false, reduceIte, zR_pE, zT_pE, zL_pE, zn_pE, zE_pE, zI_pE, zQ_pE, zJ_pE, zR_pI, zT_pI, zL_pI, zn_pI, zE_pI, zI_pI, zQ_pI, zJ_pI, zR_pR, zT_pR, zL_pR, zn_pR, zE_pR, zI_pR, zQ_pR, zJ_pR, zR_pJ, zT_pJ, zL_pJ, zn_pJ, zE_pJ, zI_pJ, zQ_pJ, zJ_pJ, oA, e10, c]
  | i + 1, n, fuel + 1, h, own, u, v, q, C, cx, k, hI, hY, hn, hf => by
    have hN := k.2.2.2.2.1.1
    have e10 : zI h 710 (shA s) = nI (shN q) := k.2.1.2.2.2.1
    have wk := c_works k
    obtain ⟨⟨⟨oA, -, r701, -, -, r704, -⟩, -, ⟨o2, l2, q2⟩, -, -⟩, -⟩ := id k
    have eS : shFire vs now (i + 1) n q = (if n < shN q ∧ shWorks q = true then (if dueF now q n then shFire vs now i (n + 1) (stl vs now (shBring now q n 5 now 0 0).2) else shFire vs now i (n + 1) q) else q) := rfl
    rw [eS]
    by_cases c : n < shN q ∧ shWorks q = true
    · rw [if_pos c]
      have hl := (works_iff q).mp c.2
      rw [if_neg hl] at wk
      have c1 : (nI (shN q) ≤ nI n) = False := eq_false (zi_le0 (by omega) (by omega) (by omega))
      have nn : (nI n).toNatClampNeg = n := zi_nat (by omega)
      have gn : ¬ nI n < 0 := zi_neg (by omega)
      have ln : ¬ 16 ≤ n := by omega
      have qn : zQ h (shA s + 2) n = wfA s n := q2 _ (by omega)
      have wf : wfC h (wfA s n) (s + 4 * n) (shF q n) := k.2.2.2.1 _ (by omega)
      have oW := wf.1.1.1
      obtain ⟨wV, wS, wN, wP, wA, -⟩ := wf.2.2.1
      obtain ⟨-, -, -, oC, eC⟩ := id cx
      obtain ⟨p1, -, -, -, G, -⟩ := row_ok hv hI.1 c.1
      have hP : wkP (flW (shF q n)) ≤ 5 := by first | exact G.1 | exact G.2.1 | exact G.2.2.1 | exact G.2.2.2.1 | exact G.2.2.2.2.1
      by_cases d1 : wkP (flW (shF q n)) = 1
      · have d1e : (nI (wkP (flW (shF q n))) = 1) = True := eq_true (by rw [d1]; rfl)
        have wA := wA (Or.inl d1)
        by_cases d2 : wkA (flW (shF q n)) ≤ now
        · rw [if_pos (show dueF now q n from ⟨d1, d2⟩)]
          have d2e : (now < wkA (flW (shF q n))) = False := eq_false (Int32.not_lt.mpr d2)
          obtain ⟨h1, x1, oA1, h2, own2, u2, v2, x2, x3, x4⟩ := c_bringS hv hs hK cx k hI.1 hY hl c.1 (kd := 5) (a := now) (b := 0) (o := 0) (fired_ok (by rw [← hI.1.rp c.1]; exact d1))
          have x1 : f_X6_bring (shA s) (wfA s n) 5 now 0 0 h = some (if (shBring now q n 5 now 0 0).1 = true then 1 else 0, h1) := x1
          obtain ⟨E, e1, e2⟩ := fire_one now hI hl c.1 d1
          obtain ⟨h3, own3, u3, v3, y1, y2, y3⟩ := c_fire hv hs hK i (n + 1) fuel h2 own2 u2 v2 _ E (x4.cx hs cx) x3 e1 (Gr.y e2 hY) (by omega) (by omega)
          refine ⟨h3, own3, u3, v3, ?_, y2, x4.tr y3⟩
          rw [← y1]
          simp only [f_X6_passTime_2, f_X6_passTime_74, o10, o00, bh, isO, inR, ck_true, bind_some9, Nat.reduceLeDiff, Nat.reduceEqDiff, and_self, and_true, true_and, false_and, and_false, not_false_eq_true, not_true_eq_false, or_self, or_false, false_or, if_true, if_false, reduceIte, zR_pE, zT_pE, zL_pE, zn_pE, zE_pE, zI_pE, zQ_pE, zJ_pE, zR_pI, zT_pI, zL_pI, zn_pI, zE_pI, zI_pI, zQ_pI, zJ_pI, zR_pR, zT_pR, zL_pR, zn_pR, zE_pR, zI_pR, zQ_pR, zJ_pR, zR_pJ, zT_pJ, zL_pJ, zn_pJ, zE_pJ, zI_pJ, zQ_pJ, zJ_pJ, oA, e10, c1, wk, r704, o2, l2, nn, gn, ln, qn, oW, wP, d1e, r701, oC, eC, wA, d2e, x1, oA1, x2, zi_one]
        · rw [if_neg (show ¬ dueF now q n from fun z => d2 z.2)]
          have d2e : (now < wkA (flW (shF q n))) = True := eq_true (Int32.not_le.mp d2)
          obtain ⟨h3, own3, u3, v3, y1, y2, y3⟩ := c_fire hv hs hK i (n + 1) fuel h own u v q C cx k hI hY (by omega) (by omega)
          refine ⟨h3, own3, u3, v3, ?_, y2, y3⟩
          rw [← y1]
          simp only [f_X6_passTime_2, f_X6_passTime_74, o10, o00, bh, isO, inR, ck_true, bind_some9, Nat.reduceLeDiff, Nat.reduceEqDiff, and_self, and_true, true_and, false_and, and_false, not_false_eq_true, not_true_eq_false, or_self, or_false, false_or, if_true, if_false, reduceIte, zR_pE, zT_pE, zL_pE, zn_pE, zE_pE, zI_pE, zQ_pE, zJ_pE, zR_pI, zT_pI, zL_pI, zn_pI, zE_pI, zI_pI, zQ_pI, zJ_pI, zR_pR, zT_pR, zL_pR, zn_pR, zE_pR, zI_pR, zQ_pR, zJ_pR, zR_pJ, zT_pJ, zL_pJ, zn_pJ, zE_pJ, zI_pJ, zQ_pJ, zJ_pJ, oA, e10, c1, wk, r704, o2, l2, nn, gn, ln, qn, oW, wP, d1e, r701, oC, eC, wA, d2e, zi_one]
      · rw [if_neg (show ¬ dueF now q n from fun z => d1 z.1)]
        have d1e : (nI (wkP (flW (shF q n))) = 1) = False := eq_false (fun z => d1 ((zi_eq (b := 1) (by omega) (by omega)).mp z))
        obtain ⟨h3, own3, u3, v3, y1, y2, y3⟩ := c_fire hv hs hK i (n + 1) fuel h own u v q C cx k hI hY (by omega) (by omega)
        refine ⟨h3, own3, u3, v3, ?_, y2, y3⟩
        rw [← y1]
        simp only [f_X6_passTime_2, f_X6_passTime_74, o10, o00, bh, isO, inR, ck_true, bind_some9, Nat.reduceLeDiff, Nat.reduceEqDiff, and_self, and_true, true_and, false_and, and_false, not_false_eq_true, not_true_eq_false, or_self, or_false, false_or, if_true, if_false, reduceIte, zR_pE, zT_pE, zL_pE, zn_pE, zE_pE, zI_pE, zQ_pE, zJ_pE, zR_pI, zT_pI, zL_pI, zn_pI, zE_pI, zI_pI, zQ_pI, zJ_pI, zR_pR, zT_pR, zL_pR, zn_pR, zE_pR, zI_pR, zQ_pR, zJ_pR, zR_pJ, zT_pJ, zL_pJ, zn_pJ, zE_pJ, zI_pJ, zQ_pJ, zJ_pJ, oA, e10, c1, wk, r704, o2, l2, nn, gn, ln, qn, oW, wP, d1e, zi_one]
    · rw [if_neg c]
      refine ⟨h, own, u, v, ?_, k, acC.rf s h own u v⟩
      by_cases c1 : n < shN q
      · have hw : shL q = -1 := by
          by_cases z : shL q = -1
          · exact z
          · exact absurd ⟨c1, (works_iff q).mpr z⟩ c
        rw [if_pos hw] at wk
        have c2 : (nI (shN q) ≤ nI n) = False := eq_false (zi_le0 (by omega) (by omega) (by omega))
        simp only [f_X6_passTime_2, o10, o00, bh, isO, inR, ck_true, bind_some9, Nat.reduceLeDiff, Nat.reduceEqDiff, and_self, and_true, true_and, false_and, and_false, not_false_eq_true, not_true_eq_false, or_self, or_false, false_or, if_true, if_false, reduceIte, zR_pE, zT_pE, zL_pE, zn_pE, zE_pE, zI_pE, zQ_pE, zJ_pE, zR_pI, zT_pI, zL_pI, zn_pI, zE_pI, zI_pI, zQ_pI, zJ_pI, zR_pR, zT_pR, zL_pR, zn_pR, zE_pR, zI_pR, zQ_pR, zJ_pR, zR_pJ, zT_pJ, zL_pJ, zn_pJ, zE_pJ, zI_pJ, zQ_pJ, zJ_pJ, oA, e10, c2, wk]
      · have c2 : nI (shN q) ≤ nI n := (zi_le (by omega) (by omega)).mpr (by omega)
        simp only [f_X6_passTime_2, o10, o00, bh, isO, inR, ck_true, bind_some9, Nat.reduceLeDiff, Nat.reduceEqDiff, and_self, and_true, true_and, false_and, and_false, not_false_eq_true, not_true_eq_false, or_self, or_false, false_or, if_true, if_false, reduceIte, zR_pE, zT_pE, zL_pE, zn_pE, zE_pE, zI_pE, zQ_pE, zJ_pE, zR_pI, zT_pI, zL_pI, zn_pI, zE_pI, zI_pI, zQ_pI, zJ_pI, zR_pR, zT_pR, zL_pR, zn_pR, zE_pR, zI_pR, zQ_pR, zJ_pR, zR_pJ, zT_pJ, zL_pJ, zn_pJ, zE_pJ, zI_pJ, zQ_pJ, zJ_pJ, oA, e10, c2]
theorem c_lapse {vs : Nat → List Prg} {now : Int32} {K s : Nat} (hv : vsOK vs) (hs : s < 4) (hK : K ≤ 2000) : ∀ (k n fuel : Nat) (h : Hp) (own u : Nat → Nat) (v : Nat) (q : Shd) (C : List Rec), cxC h own vs now → shC h own s u v q → ShS vs q C → shY q ≤ lgW C + K → n + k = 17 → k < fuel → ∃ h1 own1 u1 v1, f_X6_passTime_82 fuel (shA s) (nI n) h = some h1 ∧ shC h1 own1 s u1 v1 (shLapse vs now k n q) ∧ acC s h own u v h1 own1 u1 v1
  | k, n, 0, h, own, u, v, q, C, _, _, _, _, _, hf => absurd hf (Nat.not_lt_zero _)
  | 0, n, fuel + 1, h, own, u, v, q, C, cx, k, hI, hY, hn, hf => by
    have hN := k.2.2.2.2.1.1
    have e10 : zI h 710 (shA s) = nI (shN q) := k.2.1.2.2.2.1
    have c : nI (shN q) ≤ nI n := (zi_le (by omega) (by omega)).mpr (by omega)
    have oA := k.1.1.1
    refine ⟨h, own, u, v, ?_, k, acC.rf s h own u v⟩
    simp only [f_X6_passTime_82, o10, o00, bh, isO, inR, ck_true, bind_some9, Nat.reduceLeDiff, Nat.reduceEqDiff, and_self, and_true, true_and, false_and, and_false, not_false_eq_true, not_true_eq_false, or_self, or_false, false_or, if_true, if_false, reduceIte, zR_pE, zT_pE, zL_pE, zn_pE, zE_pE, zI_pE, zQ_pE, zJ_pE, zR_pI, zT_pI, zL_pI, zn_pI, zE_pI, zI_pI, zQ_pI, zJ_pI, zR_pR, zT_pR, zL_pR, zn_pR, zE_pR, zI_pR, zQ_pR, zJ_pR, zR_pJ, zT_pJ, zL_pJ, zn_pJ, zE_pJ, zI_pJ, zQ_pJ, zJ_pJ, oA, e10, c]
  | i + 1, n, fuel + 1, h, own, u, v, q, C, cx, k, hI, hY, hn, hf => by
    have hN := k.2.2.2.2.1.1
    have e10 : zI h 710 (shA s) = nI (shN q) := k.2.1.2.2.2.1
    have wk := c_works k
    obtain ⟨⟨⟨oA, -, r701, -, -, r704, -⟩, -, ⟨o2, l2, q2⟩, -, -⟩, -⟩ := id k
    have eS : shLapse vs now (i + 1) n q = (if n < shN q ∧ shWorks q = true then (if dueL now q n then shLapse vs now i (n + 1) (stl vs now (shFail now q n).2) else shLapse vs now i (n + 1) q) else q) := rfl
    rw [eS]
    by_cases c : n < shN q ∧ shWorks q = true
    · rw [if_pos c]
      have hl := (works_iff q).mp c.2
      rw [if_neg hl] at wk
      have c1 : (nI (shN q) ≤ nI n) = False := eq_false (zi_le0 (by omega) (by omega) (by omega))
      have nn : (nI n).toNatClampNeg = n := zi_nat (by omega)
      have gn : ¬ nI n < 0 := zi_neg (by omega)
      have ln : ¬ 16 ≤ n := by omega
      have qn : zQ h (shA s + 2) n = wfA s n := q2 _ (by omega)
      have wf : wfC h (wfA s n) (s + 4 * n) (shF q n) := k.2.2.2.1 _ (by omega)
      have oW := wf.1.1.1
      have r1003 := wf.1.1.2.2.2.2
      have oT := wf.1.2.2.2.2.2
      obtain ⟨wV, wS, wN, wP, -, -⟩ := wf.2.2.1
      obtain ⟨t0, t1, t2, t3, t4, t5⟩ := wf.2.2.2
      obtain ⟨-, -, -, oC, eC⟩ := id cx
      obtain ⟨p1, -, -, -, G, -⟩ := row_ok hv hI.1 c.1
      have hP : wkP (flW (shF q n)) ≤ 5 := by first | exact G.1 | exact G.2.1 | exact G.2.2.1 | exact G.2.2.2.1 | exact G.2.2.2.2.1
      obtain ⟨h3, own3, u3, v3, y1, y2, y3⟩ := c_lapse hv hs hK i (n + 1) fuel h own u v q C cx k hI hY (by omega) (by omega)
      by_cases d1 : wkP (flW (shF q n)) = 0
      · have d1e : (nI (wkP (flW (shF q n))) = 0) = True := eq_true (by rw [d1]; rfl)
        by_cases d3 : 0 < flK (shF q n)
        · have d3e : ((flT (shF q n)).2.2.2.2.1 ≤ 0) = False := eq_false (Int32.not_le.mpr d3)
          by_cases d2 : (flT (shF q n)).2.2.2.2.2 ≤ now
          · rw [if_pos (show dueL now q n from ⟨d1, d3, d2⟩)]
            have d2e : (now < (flT (shF q n)).2.2.2.2.2) = False := eq_false (Int32.not_lt.mpr d2)
            obtain ⟨h1, x1, oA1, h2, own2, u2, v2, x2, x3, x4⟩ := c_failS hv hs hK cx k hI.1 hY hl c.1 d1 (pos_ne d3)
            obtain ⟨E, e1, e2⟩ := fail_S now hI hl c.1 d1 (pos_ne d3)
            obtain ⟨h3, own3, u3, v3, y1, y2, y3⟩ := c_lapse hv hs hK i (n + 1) fuel h2 own2 u2 v2 _ E (x4.cx hs cx) x3 e1 (Gr.y e2 hY) (by omega) (by omega)
            refine ⟨h3, own3, u3, v3, ?_, y2, x4.tr y3⟩
            rw [← y1]
            simp only [f_X6_passTime_82, f_X6_passTime_155, o10, o00, bh, isO, inR, ck_true, bind_some9, Nat.reduceLeDiff, Nat.reduceEqDiff, and_self, and_true, true_and, false_and, and_false, not_false_eq_true, not_true_eq_false, or_self, or_false, false_or, if_true, if_false, reduceIte, zR_pE, zT_pE, zL_pE, zn_pE, zE_pE, zI_pE, zQ_pE, zJ_pE, zR_pI, zT_pI, zL_pI, zn_pI, zE_pI, zI_pI, zQ_pI, zJ_pI, zR_pR, zT_pR, zL_pR, zn_pR, zE_pR, zI_pR, zQ_pR, zJ_pR, zR_pJ, zT_pJ, zL_pJ, zn_pJ, zE_pJ, zI_pJ, zQ_pJ, zJ_pJ, oA, e10, c1, wk, r704, o2, l2, nn, gn, ln, qn, oW, r1003, wP, d1e, oT, t4, d3e, t5, r701, oC, eC, d2e, x1, oA1, x2, zi_one]
          · rw [if_neg (show ¬ dueL now q n from fun z => d2 z.2.2)]
            have d2e : (now < (flT (shF q n)).2.2.2.2.2) = True := eq_true (Int32.not_le.mp d2)
            refine ⟨h3, own3, u3, v3, ?_, y2, y3⟩
            rw [← y1]
            simp only [f_X6_passTime_82, f_X6_passTime_155, o10, o00, bh, isO, inR, ck_true, bind_some9, Nat.reduceLeDiff, Nat.reduceEqDiff, and_self, and_true, true_and, false_and, and_false, not_false_eq_true, not_true_eq_false, or_self, or_false, false_or, if_true, if_false, reduceIte, zR_pE, zT_pE, zL_pE, zn_pE, zE_pE, zI_pE, zQ_pE, zJ_pE, zR_pI, zT_pI, zL_pI, zn_pI, zE_pI, zI_pI, zQ_pI, zJ_pI, zR_pR, zT_pR, zL_pR, zn_pR, zE_pR, zI_pR, zQ_pR, zJ_pR, zR_pJ, zT_pJ, zL_pJ, zn_pJ, zE_pJ, zI_pJ, zQ_pJ, zJ_pJ, oA, e10, c1, wk, r704, o2, l2, nn, gn, ln, qn, oW, r1003, wP, d1e, oT, t4, d3e, t5, r701, oC, eC, d2e, zi_one]
        · rw [if_neg (show ¬ dueL now q n from fun z => d3 z.2.1)]
          have d3e : ((flT (shF q n)).2.2.2.2.1 ≤ 0) = True := eq_true (Int32.not_lt.mp d3)
          refine ⟨h3, own3, u3, v3, ?_, y2, y3⟩
          rw [← y1]
          simp only [f_X6_passTime_82, f_X6_passTime_155, o10, o00, bh, isO, inR, ck_true, bind_some9, Nat.reduceLeDiff, Nat.reduceEqDiff, and_self, and_true, true_and, false_and, and_false, not_false_eq_true, not_true_eq_false, or_self, or_false, false_or, if_true, if_false, reduceIte, zR_pE, zT_pE, zL_pE, zn_pE, zE_pE, zI_pE, zQ_pE, zJ_pE, zR_pI, zT_pI, zL_pI, zn_pI, zE_pI, zI_pI, zQ_pI, zJ_pI, zR_pR, zT_pR, zL_pR, zn_pR, zE_pR, zI_pR, zQ_pR, zJ_pR, zR_pJ, zT_pJ, zL_pJ, zn_pJ, zE_pJ, zI_pJ, zQ_pJ, zJ_pJ, oA, e10, c1, wk, r704, o2, l2, nn, gn, ln, qn, oW, r1003, wP, d1e, oT, t4, d3e, zi_one]
      · rw [if_neg (show ¬ dueL now q n from fun z => d1 z.1)]
        have d1e : (nI (wkP (flW (shF q n))) = 0) = False := eq_false (fun z => d1 ((zi_eq (b := 0) (by omega) (by omega)).mp z))
        refine ⟨h3, own3, u3, v3, ?_, y2, y3⟩
        rw [← y1]
        simp only [f_X6_passTime_82, f_X6_passTime_155, o10, o00, bh, isO, inR, ck_true, bind_some9, Nat.reduceLeDiff, Nat.reduceEqDiff, and_self, and_true, true_and, false_and, and_false, not_false_eq_true, not_true_eq_false, or_self, or_false, false_or, if_true, if_false, reduceIte, zR_pE, zT_pE, zL_pE, zn_pE, zE_pE, zI_pE, zQ_pE, zJ_pE, zR_pI, zT_pI, zL_pI, zn_pI, zE_pI, zI_pI, zQ_pI, zJ_pI, zR_pR, zT_pR, zL_pR, zn_pR, zE_pR, zI_pR, zQ_pR, zJ_pR, zR_pJ, zT_pJ, zL_pJ, zn_pJ, zE_pJ, zI_pJ, zQ_pJ, zJ_pJ, oA, e10, c1, wk, r704, o2, l2, nn, gn, ln, qn, oW, r1003, wP, d1e, zi_one]
    · rw [if_neg c]
      refine ⟨h, own, u, v, ?_, k, acC.rf s h own u v⟩
      by_cases c1 : n < shN q
      · have hw : shL q = -1 := by
          by_cases z : shL q = -1
          · exact z
          · exact absurd ⟨c1, (works_iff q).mpr z⟩ c
        rw [if_pos hw] at wk
        have c2 : (nI (shN q) ≤ nI n) = False := eq_false (zi_le0 (by omega) (by omega) (by omega))
        simp only [f_X6_passTime_82, o10, o00, bh, isO, inR, ck_true, bind_some9, Nat.reduceLeDiff, Nat.reduceEqDiff, and_self, and_true, true_and, false_and, and_false, not_false_eq_true, not_true_eq_false, or_self, or_false, false_or, if_true, if_false, reduceIte, zR_pE, zT_pE, zL_pE, zn_pE, zE_pE, zI_pE, zQ_pE, zJ_pE, zR_pI, zT_pI, zL_pI, zn_pI, zE_pI, zI_pI, zQ_pI, zJ_pI, zR_pR, zT_pR, zL_pR, zn_pR, zE_pR, zI_pR, zQ_pR, zJ_pR, zR_pJ, zT_pJ, zL_pJ, zn_pJ, zE_pJ, zI_pJ, zQ_pJ, zJ_pJ, oA, e10, c2, wk]
      · have c2 : nI (shN q) ≤ nI n := (zi_le (by omega) (by omega)).mpr (by omega)
        simp only [f_X6_passTime_82, o10, o00, bh, isO, inR, ck_true, bind_some9, Nat.reduceLeDiff, Nat.reduceEqDiff, and_self, and_true, true_and, false_and, and_false, not_false_eq_true, not_true_eq_false, or_self, or_false, false_or, if_true, if_false, reduceIte, zR_pE, zT_pE, zL_pE, zn_pE, zE_pE, zI_pE, zQ_pE, zJ_pE, zR_pI, zT_pI, zL_pI, zn_pI, zE_pI, zI_pI, zQ_pI, zJ_pI, zR_pR, zT_pR, zL_pR, zn_pR, zE_pR, zI_pR, zQ_pR, zJ_pR, zR_pJ, zT_pJ, zL_pJ, zn_pJ, zE_pJ, zI_pJ, zQ_pJ, zJ_pJ, oA, e10, c2]
theorem c_time {vs : Nat → List Prg} {now : Int32} {K s : Nat} (hv : vsOK vs) (hs : s < 4) (hK : K ≤ 2000) {h : Hp} {own u : Nat → Nat} {v : Nat} {q : Shd} {C : List Rec} (cx : cxC h own vs now) (k : shC h own s u v q) (hS : ShS vs q C) (hY : shY q ≤ lgW C + K) : ∃ h1 own1 u1 v1, f_X6_passTime (shA s) h = some h1 ∧ shC h1 own1 s u1 v1 (shTime vs now q) ∧ acC s h own u v h1 own1 u1 v1 := by
  obtain ⟨h1, own1, u1, v1, x1, x2, x3⟩ := c_fire hv hs hK 17 0 fz h own u v q C cx k hS hY (by omega) (fz_big (by omega))
  obtain ⟨E, e1, e2⟩ := shFire_S now 17 0 q C hS
  obtain ⟨h2, own2, u2, v2, y1, y2, y3⟩ := c_lapse hv hs hK 17 0 fz h1 own1 u1 v1 _ E (x3.cx hs cx) x2 e1 (Gr.y e2 hY) (by omega) (fz_big (by omega))
  have x1 : f_X6_passTime_2 fz (shA s) 0 h = f_X6_passTime_80 (shA s) h1 := x1
  have y1 : f_X6_passTime_82 fz (shA s) 0 h1 = some h2 := y1
  refine ⟨h2, own2, u2, v2, ?_, y2, x3.tr y3⟩
  simp only [f_X6_passTime, f_X6_passTime_80, o10, o00, bh, isO, inR, ck_true, bind_some9, Nat.reduceLeDiff, Nat.reduceEqDiff, and_self, and_true, true_and, false_and, and_false, not_false_eq_true, not_true_eq_false, or_self, or_false, false_or, if_true, if_false, reduceIte, zR_pE, zT_pE, zL_pE, zn_pE, zE_pE, zI_pE, zQ_pE, zJ_pE, zR_pI, zT_pI, zL_pI, zn_pI, zE_pI, zI_pI, zQ_pI, zJ_pI, zR_pR, zT_pR, zL_pR, zn_pR, zE_pR, zI_pR, zQ_pR, zJ_pR, zR_pJ, zT_pJ, zL_pJ, zn_pJ, zE_pJ, zI_pJ, zQ_pJ, zJ_pJ, x1, y1]
