/-! THE CALLS OF THE REFERENCE -/
theorem RW.moreK {vs : Nat → List Prg} {now : Int32} {TX : List (Nat × Nat × Nat × Prg)} {K K1 : Nat} {h : Hp} {W : Wld} (R : RW vs now TX K h W) (hK : K ≤ K1) (h1 : K1 ≤ 1600) : RW vs now TX K1 h W := fun s hs => by
  obtain ⟨C, ⟨⟨g1, g2, g3, g4, ⟨g5, g6⟩, g7⟩, ⟨hI, hY⟩, I, EE, rs⟩, R2, R3⟩ := R s hs
  exact ⟨C, ⟨⟨g1, g2, g3, g4, ⟨g5, by omega⟩, g7⟩, ⟨hI, by omega⟩, I, EE, rs⟩, R2, R3⟩
/-- a call begins: nothing is thrown -/
theorem tpS_0 (h : Hp) (v : Int32) : frx (fun a j => a = 616 ∧ j = 1200) h (pI h 1200 616 v) := frx_pI ⟨rfl, rfl⟩
theorem asd_0 : ∀ a j, (a = 616 ∧ j = 1200) → asd a j := fun a j z => Or.inl ⟨z.1, by omega⟩
theorem RT.th {vs : Nat → List Prg} {c : Nat} {TX : List (Nat × Nat × Nat × Prg)} {K tk : Nat} {h : Hp} {W : Wld} (R : RT vs c TX K tk h W) (hK : K ≤ 1600) (v : Int32) : RT vs c TX K tk (pI h 1200 616 v) W ∧ zI (pI h 1200 616 v) 1200 616 = v ∧ frx tpS h (pI h 1200 616 v) := by
  obtain ⟨R1, lt, T, etk⟩ := R
  refine ⟨⟨R1.off (tpS_0 h v) asd_0 ?_, lt.off (tpS_0 h v) asd_0, T, ?_⟩, ?_, frx_pI (Or.inr (Or.inr ⟨rfl, Or.inl rfl⟩))⟩
  · rw [zI_pI, if_neg (by omega)]; exact (R1.base hK).1.2.2.1
  · rw [zI_pI, if_neg (by omega)]; exact etk
  · rw [zI_pI, if_pos ⟨rfl, rfl⟩]
/-- what holds behind a call that answers r -/
def aft (vs : Nat → List Prg) (c : Nat) (TX : List (Nat × Nat × Nat × Prg)) (K tk : Nat) (h : Hp) (W1 : Wld) (th r : Int32) (x : Option (Int32 × Hp)) : Prop := ∃ h1, x = some (r, h1) ∧ zI h1 1200 616 = th ∧ RT vs c TX K tk h1 W1 ∧ frx tpS h h1
theorem aft_act {vs : Nat → List Prg} {c : Nat} {TX : List (Nat × Nat × Nat × Prg)} {K tk : Nat} {h h1 h2 : Hp} {W W1 : Wld} {r th : Int32} {N : Nat} (hK : K ≤ 1600) (R : RT vs c TX K tk h1 W) (e0 : zI h1 1200 616 = th) (f0 : frx tpS h h1) (R1 : RW vs (nI c) TX K h2 W1) (f1 : frx (wdF N) h1 h2) (T : WdT tk W1) : aft vs c TX K tk h W1 th r (some (r, h2)) := by
  refine ⟨h2, rfl, ?_, ⟨R1, R.2.1.on f1, T, ?_⟩, f0.trans (f1.mono wdF_tp)⟩
  · rw [f1.2.2.1 1200 (wdF_fld (by omega))]; exact e0
  · rw [f1.2.2.1 1202 (wdF_fld (by omega))]; exact R.2.2.2
theorem w_no {v n : Int32} {h : Hp} (c : v < 0 ∨ n ≤ v) : f_X11_in v n h = some (0, h) := by
  unfold f_X11_in
  by_cases d : v < 0
  · rw [if_pos d]
  · rw [if_neg d, if_pos (c.resolve_left d)]
theorem w_yes {v n : Int32} {h : Hp} (c : ¬ (v < 0 ∨ n ≤ v)) : f_X11_in v n h = some (1, h) := by
  unfold f_X11_in
  rw [if_neg (fun z => c (Or.inl z)), if_neg (fun z => c (Or.inr z))]
theorem w_placeOf {h : Hp} {m : Nat} (hm : m < 64) : f_X11_placeOf (nI m) h = some (nI (16 * (m % 4) + m / 4), h) := by
  unfold f_X11_placeOf
  rw [show (4 : Int32) = nI 4 from rfl, zi_mod (by omega) (by omega) (by omega), zi_div (by omega) (by omega) (by omega), show (16 : Int32) = nI 16 from rfl, zi_mul, zi_add]
theorem w_isFlow {vs : Nat → List Prg} {now : Int32} {TX : List (Nat × Nat × Nat × Prg)} {K : Nat} {h : Hp} {W : Wld} (R : RW vs now TX K h W) (hK : K ≤ 1600) (w : Int32) : f_X11_isFlow 616 w h = some (if (flw W w).isSome = true then 1 else 0, h) := by
  obtain ⟨G, tb, bs⟩ := R.base hK
  have H := G.1
  unfold flw
  by_cases c : w < 0
  · rw [if_pos c]
    unfold f_X11_isFlow
    rw [if_pos c]
    rfl
  · rw [if_neg c]
    obtain ⟨m, m1, rfl⟩ := zi_of c
    rw [zi_nat m1]
    by_cases d : m < 64
    · have c64 : ¬ (64 : Int32) ≤ nI m := zi_le0 (a := 64) (by omega) (by omega) (by omega)
      have em : nI m - nI m / (4 : Int32) * (4 : Int32) = nI (m % 4) := zi_mod (b := 4) m1 (by omega) (by omega)
      have ed : nI m / (4 : Int32) = nI (m / 4) := zi_div (b := 4) m1 (by omega) (by omega)
      obtain ⟨b1, b2, b3, -⟩ := bs (m % 4) (by omega)
      have nx : (nI (m % 4)).toNatClampNeg = m % 4 := zi_nat (by omega)
      have gx : ¬ nI (m % 4) < 0 := zi_neg (by omega)
      have lx : ¬ 4 ≤ m % 4 := by omega
      have q : nI (shN (W (m % 4))) ≤ nI (m / 4) ↔ shN (W (m % 4)) ≤ m / 4 := zi_le (by omega) (by omega)
      by_cases e : m / 4 < shN (W (m % 4))
      · rw [if_pos e]
        have dd := eq_false (fun z => absurd (q.mp z) (by omega))
        simp only [f_X11_isFlow, o10, o00, bh, isO, inR, ck_true, bind_some9, Nat.reduceLeDiff, Nat.reduceEqDiff, and_self, and_true, true_and, false_and, and_false, not_false_eq_true, not_true_eq_false, or_self, or_false, false_or, if_true, if_false, reduceIte, RF_o H, RF_1239 H, RO_647 H, RL_647 H, zR_pE, zT_pE, zL_pE, zn_pE, zE_pE, zI_pE, zR_pI, zT_pI, zL_pI, zn_pI, zE_pI, zI_pI, c, c64, em, nx, gx, lx, b2]
        rw [ed]
        simp only [dd, if_false]
        rfl
      · rw [if_neg e]
        have dd := eq_true (q.mpr (by omega))
        simp only [f_X11_isFlow, o10, o00, bh, isO, inR, ck_true, bind_some9, Nat.reduceLeDiff, Nat.reduceEqDiff, and_self, and_true, true_and, false_and, and_false, not_false_eq_true, not_true_eq_false, or_self, or_false, false_or, if_true, if_false, reduceIte, RF_o H, RF_1239 H, RO_647 H, RL_647 H, zR_pE, zT_pE, zL_pE, zn_pE, zE_pE, zI_pE, zR_pI, zT_pI, zL_pI, zn_pI, zE_pI, zI_pI, c, c64, em, nx, gx, lx, b2]
        rw [ed]
        simp only [dd, if_true]
        rfl
    · have c64 : (64 : Int32) ≤ nI m := (zi_le (a := 64) (by omega) (by omega)).mpr (by omega)
      have b3 := (bs (m % 4) (by omega)).2.2.1
      have b4 : ¬ m / 4 < shN (W (m % 4)) := by
        generalize shN (W (m % 4)) = z at b3 ⊢
        omega
      rw [if_neg b4]
      unfold f_X11_isFlow
      rw [if_neg c, if_pos c64]
      rfl
theorem w_works {vs : Nat → List Prg} {now : Int32} {TX : List (Nat × Nat × Nat × Prg)} {K : Nat} {h : Hp} {W : Wld} (R : RW vs now TX K h W) (hK : K ≤ 1600) {s n : Nat} (hs : s < 4) (hn : n < 16) : f_X11_works 616 (nI (16 * s + n)) h = some (if shL (W s) = -1 then 0 else 1, h) := by
  obtain ⟨G, tb, bs⟩ := R.base hK
  have H := G.1
  have b1 := (bs s hs).1
  have nx : (nI s).toNatClampNeg = s := zi_nat (by omega)
  have gx : ¬ nI s < 0 := zi_neg (by omega)
  have lx : ¬ 4 ≤ s := by omega
  by_cases c : shL (W s) = -1
  · have d := eq_true (b1.trans c)
    rw [if_pos c]
    simp only [f_X11_works, o10, o00, bh, isO, inR, ck_true, bind_some9, Nat.reduceLeDiff, Nat.reduceEqDiff, and_self, and_true, true_and, false_and, and_false, not_false_eq_true, not_true_eq_false, or_self, or_false, false_or, if_true, if_false, reduceIte, RF_o H, RF_1237 H, RO_645 H, RL_645 H, zR_pE, zT_pE, zL_pE, zn_pE, zE_pE, zI_pE, zR_pI, zT_pI, zL_pI, zn_pI, zE_pI, zI_pI, zi_16d hs hn, nx, gx, lx, d]
  · have d := eq_false (fun z => c (b1.symm.trans z))
    rw [if_neg c]
    simp only [f_X11_works, o10, o00, bh, isO, inR, ck_true, bind_some9, Nat.reduceLeDiff, Nat.reduceEqDiff, and_self, and_true, true_and, false_and, and_false, not_false_eq_true, not_true_eq_false, or_self, or_false, false_or, if_true, if_false, reduceIte, RF_o H, RF_1237 H, RO_645 H, RL_645 H, zR_pE, zT_pE, zL_pE, zn_pE, zE_pE, zI_pE, zR_pI, zT_pI, zL_pI, zn_pI, zE_pI, zI_pI, zi_16d hs hn, nx, gx, lx, d]
theorem flw_64 {vs : Nat → List Prg} {now : Int32} {TX : List (Nat × Nat × Nat × Prg)} {K : Nat} {h : Hp} {W : Wld} (R : RW vs now TX K h W) (hK : K ≤ 1600) {w : Int32} {s n : Nat} (e : flw W w = some (s, n)) : s < 4 ∧ n < shN (W s) ∧ n < 16 ∧ w = nI (s + 4 * n) ∧ ∀ g, f_X11_placeOf w g = some (nI (16 * s + n), g) := by
  obtain ⟨hs, hn, m, m1, m2, m3, m4⟩ := flw_some e
  have b3 := ((R.base hK).2.2 s hs).2.2.1
  have em : m = s + 4 * n := by omega
  refine ⟨hs, hn, by omega, by rw [m2, em], fun g => ?_⟩
  rw [m2, w_placeOf (by omega), ← m3, ← m4]
theorem WdT_act {tk : Nat} {W : Wld} {s : Nat} {u : Shd} (T : WdT tk W) (a : tkLe (W s) u) : WdT tk (upf W s u) := WdT_up (vs := fun _ => []) T a
theorem zi_and3 (m : Nat) : nI m &&& 3 = nI (m % 4) := by
  apply Int32.toBitVec_inj.mp
  show BitVec.ofNat 32 m &&& BitVec.ofNat 32 3 = BitVec.ofNat 32 (m % 4)
  apply BitVec.eq_of_toNat_eq
  rw [BitVec.toNat_and, BitVec.toNat_ofNat, BitVec.toNat_ofNat, BitVec.toNat_ofNat]
  have : m % 2 ^ 32 &&& 3 % 2 ^ 32 = (m % 2 ^ 32) % 4 := Nat.and_two_pow_sub_one_eq_mod _ 2
  rw [this]
  omega
theorem w_start {vs : Nat → List Prg} {c : Nat} {TX : List (Nat × Nat × Nat × Prg)} {K tk : Nat} {h : Hp} {W : Wld} (hvs : vsOK vs) (hK : K ≤ 1600) (R : RT vs c TX K tk h W) (rq p x : Int32) : aft vs c TX K tk h (wdStart vs (nI c) W rq p x).2 0 (wdStart vs (nI c) W rq p x).1 (f_X11_start 616 rq p x h) := by
  obtain ⟨R0, e0, f0⟩ := R.th hK 0
  obtain ⟨G, tb, bs⟩ := R.1.base hK
  have H := G.1
  have stay : ∀ r : Int32, aft vs c TX K tk h W 0 r (some (r, pI h 1200 616 0)) := fun r => ⟨_, rfl, e0, R0, f0⟩
  unfold wdStart
  by_cases cr : rq < 0
  · rw [if_pos cr]
    simp only [f_X11_start, o10, o00, bh, isO, inR, ck_true, bind_some9, Nat.reduceLeDiff, Nat.reduceEqDiff, and_self, and_true, true_and, false_and, and_false, not_false_eq_true, not_true_eq_false, or_self, or_false, false_or, if_true, if_false, reduceIte, RF_o H, RF_1211 H, RO_622 H, RL_622 H, RF_1237 H, RO_645 H, RL_645 H, RF_1239 H, RO_647 H, RL_647 H, zR_pE, zT_pE, zL_pE, zn_pE, zE_pE, zI_pE, zR_pI, zT_pI, zL_pI, zn_pI, zE_pI, zI_pI, cr]
    exact stay _
  · rw [if_neg cr]
    obtain ⟨m, m1, rfl⟩ := zi_of cr
    have e3 := zi_and3 m
    rw [zi_nat m1]
    have hs : m % 4 < 4 := by omega
    generalize m % 4 = s at *
    obtain ⟨b1, b2, b3, -⟩ := bs s hs
    have nx : (nI s).toNatClampNeg = s := zi_nat (by omega)
    have gx : ¬ nI s < 0 := zi_neg (by omega)
    have lx : ¬ 4 ≤ s := by omega
    have ew := w_withOrigin R0.1 hK hs (nI m)
    by_cases cl : shL (W s) = -1
    · have d := eq_true (b1.trans cl)
      simp only [f_X11_start, o10, o00, bh, isO, inR, ck_true, bind_some9, Nat.reduceLeDiff, Nat.reduceEqDiff, and_self, and_true, true_and, false_and, and_false, not_false_eq_true, not_true_eq_false, or_self, or_false, false_or, if_true, if_false, reduceIte, RF_o H, RF_1211 H, RO_622 H, RL_622 H, RF_1237 H, RO_645 H, RL_645 H, RF_1239 H, RO_647 H, RL_647 H, zR_pE, zT_pE, zL_pE, zn_pE, zE_pE, zI_pE, zR_pI, zT_pI, zL_pI, zn_pI, zE_pI, zI_pI, cr, e3, nx, gx, lx, d]
      rw [if_pos cl]
      exact stay _
    · have d := eq_false (fun z => cl (b1.symm.trans z))
      simp only []
      rw [if_neg cl]
      cases ho : shOrg (W s) (nI m) with
      | some n =>
        rw [ho] at ew
        have ew : f_X11_withOrigin 616 (nI s) (nI m) (pI h 1200 616 0) = some (nI (16 * s + n), pI h 1200 616 0) := ew
        have hn := (shOrg_some ho).1
        have d2 := eq_false (zi_ne1 (by omega : 16 * s + n < 2147483648))
        have en := w_numberOf (h := pI h 1200 616 0) hs (by omega : n < 16)
        simp only [f_X11_start, o10, o00, bh, isO, inR, ck_true, bind_some9, Nat.reduceLeDiff, Nat.reduceEqDiff, and_self, and_true, true_and, false_and, and_false, not_false_eq_true, not_true_eq_false, or_self, or_false, false_or, if_true, if_false, reduceIte, RF_o H, RF_1211 H, RO_622 H, RL_622 H, RF_1237 H, RO_645 H, RL_645 H, RF_1239 H, RO_647 H, RL_647 H, zR_pE, zT_pE, zL_pE, zn_pE, zE_pE, zI_pE, zR_pI, zT_pI, zL_pI, zn_pI, zE_pI, zI_pI, cr, e3, nx, gx, lx, d, ew, d2, en]
        exact stay _
      | none =>
        rw [ho] at ew
        have ew : f_X11_withOrigin 616 (nI s) (nI m) (pI h 1200 616 0) = some (-1, pI h 1200 616 0) := ew
        have fin : ∀ (r : Int32 × Wld) (M1 : Int32), M1 = -1 → (f_X11_in p 8 (pI h 1200 616 0)).bind (fun q10 => if q10.1 = 0 then some (-1, q10.2) else ck (isO q10.2 616 12) (ck (isO q10.2 (zR q10.2 1211 616) 22) (ck (inR p (zL q10.2 (zR q10.2 1211 616))) (if zE q10.2 (zR q10.2 1211 616) p.toNatClampNeg = -1 then some (-1, q10.2) else ck (isO q10.2 (zR q10.2 1239 616) 22) (ck (inR (nI s) (zL q10.2 (zR q10.2 1239 616))) (if zE q10.2 (zR q10.2 1239 616) (nI s).toNatClampNeg = 16 then some (-1, q10.2) else (f_X11_begins 616 (nI s) (zE q10.2 (zR q10.2 1211 616) p.toNatClampNeg) x (nI m) q10.2).bind (fun q19 => some (q19.1, q19.2)))))))) = f_X11_start 616 (nI m) p x h := fun r M1 hm1 => by
          rw [← hm1] at ew d ⊢
          simp only [f_X11_start, o10, o00, bh, isO, inR, ck_true, bind_some9, Nat.reduceLeDiff, Nat.reduceEqDiff, and_self, and_true, true_and, false_and, and_false, not_false_eq_true, not_true_eq_false, or_self, or_false, false_or, if_true, if_false, reduceIte, RF_o H, RF_1211 H, RO_622 H, RL_622 H, RF_1237 H, RO_645 H, RL_645 H, RF_1239 H, RO_647 H, RL_647 H, zR_pE, zT_pE, zL_pE, zn_pE, zE_pE, zI_pE, zR_pI, zT_pI, zL_pI, zn_pI, zE_pI, zI_pI, cr, e3, nx, gx, lx, d, ew, ← hm1]
        rw [← fin (0, W) (-1) rfl]
        by_cases cp : p < 0 ∨ (8 : Int32) ≤ p
        · rw [w_no cp]
          simp only []
          rw [if_pos (by rcases cp with z | z; exact Or.inl z; exact Or.inr (Or.inl z))]
          exact stay _
        · have ei := w_yes (h := pI h 1200 616 0) cp
          simp only []
          obtain ⟨pn, pn1, rfl⟩ := zi_of (fun z => cp (Or.inl z))
          have hp8 : pn < 8 := by
            have : ¬ nI 8 ≤ nI pn := fun z => cp (Or.inr z)
            rw [zi_le (by omega) pn1] at this
            omega
          have np : (nI pn).toNatClampNeg = pn := zi_nat (by omega)
          have gp : ¬ nI pn < 0 := zi_neg (by omega)
          have lp : ¬ 8 ≤ pn := by omega
          obtain ⟨l1, l2⟩ := R.2.1 pn hp8
          simp only [np]
          by_cases cv : vs pn = []
          · rw [if_pos (Or.inr (Or.inr (Or.inl cv)))]
            have dv := eq_true (l1 cv)
            simp only [f_X11_start, o10, o00, bh, isO, inR, ck_true, bind_some9, Nat.reduceLeDiff, Nat.reduceEqDiff, and_self, and_true, true_and, false_and, and_false, not_false_eq_true, not_true_eq_false, or_self, or_false, false_or, if_true, if_false, reduceIte, RF_o H, RF_1211 H, RO_622 H, RL_622 H, RF_1237 H, RO_645 H, RL_645 H, RF_1239 H, RO_647 H, RL_647 H, zR_pE, zT_pE, zL_pE, zn_pE, zE_pE, zI_pE, zR_pI, zT_pI, zL_pI, zn_pI, zE_pI, zI_pI, ei, np, gp, lp, dv]
            exact stay _
          · obtain ⟨t, S, P, t1, t2⟩ := l2 cv
            have htl := (List.getElem?_eq_some_iff.mp t2).1
            have tx41 := G.2.2.2.1.1
            have dv : (zE h 622 pn = -1) = False := eq_false (by rw [t1]; exact zi_ne1 (by omega))
            by_cases cn : shN (W s) = 16
            · rw [if_pos (Or.inr (Or.inr (Or.inr cn)))]
              have dn : (nI (shN (W s)) = 16) = True := eq_true (by rw [cn]; rfl)
              simp only [f_X11_start, o10, o00, bh, isO, inR, ck_true, bind_some9, Nat.reduceLeDiff, Nat.reduceEqDiff, and_self, and_true, true_and, false_and, and_false, not_false_eq_true, not_true_eq_false, or_self, or_false, false_or, if_true, if_false, reduceIte, RF_o H, RF_1211 H, RO_622 H, RL_622 H, RF_1237 H, RO_645 H, RL_645 H, RF_1239 H, RO_647 H, RL_647 H, zR_pE, zT_pE, zL_pE, zn_pE, zE_pE, zI_pE, zR_pI, zT_pI, zL_pI, zn_pI, zE_pI, zI_pI, ei, np, gp, lp, dv, nx, gx, lx, b2, dn]
              exact stay _
            · have dn : (nI (shN (W s)) = 16) = False := eq_false (fun z => cn ((zi_eq (b := 16) (by omega) (by omega)).mp z))
              rw [if_neg (by rintro (z | z | z | z); exact gp z; exact cp (Or.inr z); exact cv z; exact cn z)]
              obtain ⟨h1, a1, a2, a3⟩ := w_begins_W R0.1 hvs hK hs cl (by omega) hp8 cv t2 x (nI m)
              obtain ⟨C, RC, RC2, RC3⟩ := R0.1 s hs
              obtain ⟨E9, -, gr9⟩ := begin_S hvs (nI c) ⟨RC.2.1.1, RC2, RC3⟩ cl (by omega) hp8 cv x (nI m)
              have dv2 : (nI t = -1) = False := eq_false (zi_ne1 (by omega))
              simp only [f_X11_start, o10, o00, bh, isO, inR, ck_true, bind_some9, Nat.reduceLeDiff, Nat.reduceEqDiff, and_self, and_true, true_and, false_and, and_false, not_false_eq_true, not_true_eq_false, or_self, or_false, false_or, if_true, if_false, reduceIte, RF_o H, RF_1211 H, RO_622 H, RL_622 H, RF_1237 H, RO_645 H, RL_645 H, RF_1239 H, RO_647 H, RL_647 H, zR_pE, zT_pE, zL_pE, zn_pE, zE_pE, zI_pE, zR_pI, zT_pI, zL_pI, zn_pI, zE_pI, zI_pI, ei, np, gp, lp, t1, dv2, nx, gx, lx, b2, dn, a1]
              exact aft_act hK R0 e0 f0 a2 a3 (WdT_act R0.2.2.1 gr9.2.2.2.2.2.2)
def aftB (vs : Nat → List Prg) (c : Nat) (TX : List (Nat × Nat × Nat × Prg)) (K tk : Nat) (h : Hp) (q : Bool × Wld) (x : Option (Int32 × Hp)) : Prop := aft vs c TX K tk h q.2 0 (if q.1 = true then 1 else 0) x
theorem aftB_t {vs : Nat → List Prg} {c : Nat} {TX : List (Nat × Nat × Nat × Prg)} {K tk : Nat} {h : Hp} {W : Wld} {x : Option (Int32 × Hp)} (a : aft vs c TX K tk h W 0 1 x) : aftB vs c TX K tk h (true, W) x := a
theorem aftB_f {vs : Nat → List Prg} {c : Nat} {TX : List (Nat × Nat × Nat × Prg)} {K tk : Nat} {h : Hp} {W : Wld} {x : Option (Int32 × Hp)} (a : aft vs c TX K tk h W 0 0 x) : aftB vs c TX K tk h (false, W) x := a
theorem w_signal {vs : Nat → List Prg} {c : Nat} {TX : List (Nat × Nat × Nat × Prg)} {K tk : Nat} {h : Hp} {W : Wld} (hK : K ≤ 1600) (R : RT vs c TX K tk h W) (rq w v : Int32) : aftB vs c TX K tk h (wdSignal vs (nI c) W rq w v) (f_X11_signal 616 rq w v h) := by
  obtain ⟨R0, e0, f0⟩ := R.th hK 0
  obtain ⟨G, tb, bs⟩ := R.1.base hK
  have H := G.1
  have stay : ∀ r : Int32, aft vs c TX K tk h W 0 r (some (r, pI h 1200 616 0)) := fun r => ⟨_, rfl, e0, R0, f0⟩
  have eF := w_isFlow R0.1 hK w
  unfold wdSignal
  by_cases cr : rq < 0
  · rw [if_pos cr]
    simp only [f_X11_signal, o10, o00, bh, isO, inR, ck_true, bind_some9, Nat.reduceLeDiff, Nat.reduceEqDiff, and_self, and_true, true_and, false_and, and_false, not_false_eq_true, not_true_eq_false, or_self, or_false, false_or, if_true, if_false, reduceIte, RF_o H, RF_1243 H, RO_651 H, RL_651 H, zR_pE, zT_pE, zL_pE, zn_pE, zE_pE, zI_pE, zR_pI, zT_pI, zL_pI, zn_pI, zE_pI, zI_pI, cr]
    exact aftB_f (stay _)
  · rw [if_neg cr]
    cases ef : flw W w with
    | none =>
      rw [ef] at eF
      have eF : f_X11_isFlow 616 w (pI h 1200 616 0) = some (0, pI h 1200 616 0) := eF
      simp only [f_X11_signal, o10, o00, bh, isO, inR, ck_true, bind_some9, Nat.reduceLeDiff, Nat.reduceEqDiff, and_self, and_true, true_and, false_and, and_false, not_false_eq_true, not_true_eq_false, or_self, or_false, false_or, if_true, if_false, reduceIte, RF_o H, RF_1243 H, RO_651 H, RL_651 H, zR_pE, zT_pE, zL_pE, zn_pE, zE_pE, zI_pE, zR_pI, zT_pI, zL_pI, zn_pI, zE_pI, zI_pI, cr, eF]
      exact aftB_f (stay _)
    | some sn =>
      obtain ⟨s, n⟩ := sn
      rw [ef] at eF
      have eF : f_X11_isFlow 616 w (pI h 1200 616 0) = some (1, pI h 1200 616 0) := eF
      obtain ⟨hs, hn, hn16, ew, ep⟩ := flw_64 R0.1 hK ef
      have eW := w_works R0.1 hK hs hn16
      simp only []
      by_cases cl : shL (W s) = -1
      · rw [if_pos cl] at eW ⊢
        simp only [f_X11_signal, o10, o00, bh, isO, inR, ck_true, bind_some9, Nat.reduceLeDiff, Nat.reduceEqDiff, and_self, and_true, true_and, false_and, and_false, not_false_eq_true, not_true_eq_false, or_self, or_false, false_or, if_true, if_false, reduceIte, RF_o H, RF_1243 H, RO_651 H, RL_651 H, zR_pE, zT_pE, zL_pE, zn_pE, zE_pE, zI_pE, zR_pI, zT_pI, zL_pI, zn_pI, zE_pI, zI_pI, cr, eF, ep, eW]
        exact aftB_f (stay _)
      · rw [if_neg cl] at eW ⊢
        obtain ⟨E, ev, rf, tk9, l1, l5, -⟩ := R.1.row hs hn
        obtain ⟨E1, ev1, -⟩ := R0.1.row hs hn
        have eS := w_hasSignal (R0.1.base hK).1.1 (by omega : 16 * s + n < 64) (by omega : totQ W ≤ 60000) ev1 rq
        by_cases cs : hasSig (flE (shF (W s) n)) rq = true
        · rw [if_pos cs] at eS ⊢
          simp only [f_X11_signal, o10, o00, bh, isO, inR, ck_true, bind_some9, Nat.reduceLeDiff, Nat.reduceEqDiff, and_self, and_true, true_and, false_and, and_false, not_false_eq_true, not_true_eq_false, or_self, or_false, false_or, if_true, if_false, reduceIte, RF_o H, RF_1243 H, RO_651 H, RL_651 H, zR_pE, zT_pE, zL_pE, zn_pE, zE_pE, zI_pE, zR_pI, zT_pI, zL_pI, zn_pI, zE_pI, zI_pI, cr, eF, ep, eW, eS]
          exact aftB_t (stay _)
        · rw [if_neg cs] at eS ⊢
          have nw : (nI (16 * s + n)).toNatClampNeg = 16 * s + n := zi_nat (by omega)
          have gw : ¬ nI (16 * s + n) < 0 := zi_neg (by omega)
          have lw : ¬ 64 ≤ 16 * s + n := by omega
          have e51 := rf.1.1
          have p5 := rf.1.2
          have q4 : nI (wkP (rpR (flP (shF (W s) n)) (flE (shF (W s) n)))) = (4 : Int32) ↔ wkP (rpR (flP (shF (W s) n)) (flE (shF (W s) n))) = 4 := zi_eq (b := 4) (by omega) (by omega)
          by_cases c4 : wkP (flW (shF (W s) n)) = 4
          · rw [if_pos c4]
            rw [l5] at c4
            have d4 := eq_true (q4.mpr c4)
            simp only [f_X11_signal, o10, o00, bh, isO, inR, ck_true, bind_some9, Nat.reduceLeDiff, Nat.reduceEqDiff, and_self, and_true, true_and, false_and, and_false, not_false_eq_true, not_true_eq_false, or_self, or_false, false_or, if_true, if_false, reduceIte, RF_o H, RF_1243 H, RO_651 H, RL_651 H, zR_pE, zT_pE, zL_pE, zn_pE, zE_pE, zI_pE, zR_pI, zT_pI, zL_pI, zn_pI, zE_pI, zI_pI, cr, eF, ep, eW, eS, nw, gw, lw, e51, d4]
            exact aftB_f (stay _)
          · rw [if_neg c4]
            have c4' := c4
            rw [l5] at c4
            have d4 := eq_false (fun z => c4 (q4.mp z))
            obtain ⟨C, RC, RC2, RC3⟩ := R0.1 s hs
            have c5 : wkP (rpR (flP (shF (W s) n)) (flE (shF (W s) n))) ≠ 5 := by rw [← l5]; exact RC2 cl n hn
            have ok := signal_ok (a := v) (b := 0) (o := rq) c4 c5
            obtain ⟨h1, a1, a2, a3⟩ := w_comes_W R0.1 hK hs cl hn ok
            have a1 : f_X11_comes 616 (nI (16 * s + n)) 8 v 0 rq (pI h 1200 616 0) = some (if (shBring (nI c) (W s) n 8 v 0 rq).1 = true then 1 else 0, h1) := a1
            obtain ⟨E9, -, gr9⟩ := bring_S (nI c) ⟨RC.2.1.1, RC2, RC3⟩ cl hn ok
            have fin := aft_act (r := if (shBring (nI c) (W s) n 8 v 0 rq).1 = true then 1 else 0) hK R0 e0 f0 a2 a3 (WdT_act R0.2.2.1 gr9.2.2.2.2.2.2)
            cases cb : (shBring (nI c) (W s) n 8 v 0 rq).1 with
            | true =>
              rw [cb, if_pos rfl] at a1 fin
              simp only [f_X11_signal, o10, o00, bh, isO, inR, ck_true, bind_some9, Nat.reduceLeDiff, Nat.reduceEqDiff, and_self, and_true, true_and, false_and, and_false, not_false_eq_true, not_true_eq_false, or_self, or_false, false_or, if_true, if_false, reduceIte, RF_o H, RF_1243 H, RO_651 H, RL_651 H, zR_pE, zT_pE, zL_pE, zn_pE, zE_pE, zI_pE, zR_pI, zT_pI, zL_pI, zn_pI, zE_pI, zI_pI, cr, eF, ep, eW, eS, nw, gw, lw, e51, d4, a1]
              exact aftB_t fin
            | false =>
              rw [cb, if_neg Bool.noConfusion] at a1 fin
              simp only [f_X11_signal, o10, o00, bh, isO, inR, ck_true, bind_some9, Nat.reduceLeDiff, Nat.reduceEqDiff, and_self, and_true, true_and, false_and, and_false, not_false_eq_true, not_true_eq_false, or_self, or_false, false_or, if_true, if_false, reduceIte, RF_o H, RF_1243 H, RO_651 H, RL_651 H, zR_pE, zT_pE, zL_pE, zn_pE, zE_pE, zI_pE, zR_pI, zT_pI, zL_pI, zn_pI, zE_pI, zI_pI, cr, eF, ep, eW, eS, nw, gw, lw, e51, d4, a1]
              exact aftB_f fin
theorem w_cancel {vs : Nat → List Prg} {c : Nat} {TX : List (Nat × Nat × Nat × Prg)} {K tk : Nat} {h : Hp} {W : Wld} (hK : K ≤ 1600) (R : RT vs c TX K tk h W) (w : Int32) : aftB vs c TX K tk h (wdCancel vs (nI c) W w) (f_X11_cancel 616 w h) := by
  obtain ⟨R0, e0, f0⟩ := R.th hK 0
  obtain ⟨G, tb, bs⟩ := R.1.base hK
  have H := G.1
  have stay : ∀ r : Int32, aft vs c TX K tk h W 0 r (some (r, pI h 1200 616 0)) := fun r => ⟨_, rfl, e0, R0, f0⟩
  have eF := w_isFlow R0.1 hK w
  unfold wdCancel
  cases ef : flw W w with
  | none =>
    rw [ef] at eF
    have eF : f_X11_isFlow 616 w (pI h 1200 616 0) = some (0, pI h 1200 616 0) := eF
    simp only [f_X11_cancel, o10, o00, bh, isO, inR, ck_true, bind_some9, Nat.reduceLeDiff, Nat.reduceEqDiff, and_self, and_true, true_and, false_and, and_false, not_false_eq_true, not_true_eq_false, or_self, or_false, false_or, if_true, if_false, reduceIte, RF_o H, RF_1243 H, RO_651 H, RL_651 H, zR_pE, zT_pE, zL_pE, zn_pE, zE_pE, zI_pE, zR_pI, zT_pI, zL_pI, zn_pI, zE_pI, zI_pI, eF]
    exact aftB_f (stay _)
  | some sn =>
    obtain ⟨s, n⟩ := sn
    rw [ef] at eF
    have eF : f_X11_isFlow 616 w (pI h 1200 616 0) = some (1, pI h 1200 616 0) := eF
    obtain ⟨hs, hn, hn16, ew, ep⟩ := flw_64 R0.1 hK ef
    have eW := w_works R0.1 hK hs hn16
    simp only []
    by_cases cl : shL (W s) = -1
    · rw [if_pos cl] at eW
      rw [if_pos (Or.inl cl)]
      simp only [f_X11_cancel, o10, o00, bh, isO, inR, ck_true, bind_some9, Nat.reduceLeDiff, Nat.reduceEqDiff, and_self, and_true, true_and, false_and, and_false, not_false_eq_true, not_true_eq_false, or_self, or_false, false_or, if_true, if_false, reduceIte, RF_o H, RF_1243 H, RO_651 H, RL_651 H, zR_pE, zT_pE, zL_pE, zn_pE, zE_pE, zI_pE, zR_pI, zT_pI, zL_pI, zn_pI, zE_pI, zI_pI, eF, ep, eW]
      exact aftB_f (stay _)
    · rw [if_neg cl] at eW
      obtain ⟨E, ev, rf, tk9, l1, l5, -⟩ := R.1.row hs hn
      have nw : (nI (16 * s + n)).toNatClampNeg = 16 * s + n := zi_nat (by omega)
      have gw : ¬ nI (16 * s + n) < 0 := zi_neg (by omega)
      have lw : ¬ 64 ≤ 16 * s + n := by omega
      have e51 := rf.1.1
      have p5 := rf.1.2
      have q4 : nI (wkP (rpR (flP (shF (W s) n)) (flE (shF (W s) n)))) = (4 : Int32) ↔ wkP (rpR (flP (shF (W s) n)) (flE (shF (W s) n))) = 4 := zi_eq (b := 4) (by omega) (by omega)
      by_cases c4 : wkP (flW (shF (W s) n)) = 4
      · rw [if_pos (Or.inr c4)]
        rw [l5] at c4
        have d4 := eq_true (q4.mpr c4)
        simp only [f_X11_cancel, o10, o00, bh, isO, inR, ck_true, bind_some9, Nat.reduceLeDiff, Nat.reduceEqDiff, and_self, and_true, true_and, false_and, and_false, not_false_eq_true, not_true_eq_false, or_self, or_false, false_or, if_true, if_false, reduceIte, RF_o H, RF_1243 H, RO_651 H, RL_651 H, zR_pE, zT_pE, zL_pE, zn_pE, zE_pE, zI_pE, zR_pI, zT_pI, zL_pI, zn_pI, zE_pI, zI_pI, eF, ep, eW, nw, gw, lw, e51, d4]
        exact aftB_f (stay _)
      · rw [if_neg (by rintro (z | z); exact cl z; exact c4 z)]
        rw [l5] at c4
        have d4 := eq_false (fun z => c4 (q4.mp z))
        obtain ⟨C, RC, RC2, RC3⟩ := R0.1 s hs
        have c5 : wkP (rpR (flP (shF (W s) n)) (flE (shF (W s) n))) ≠ 5 := by rw [← l5]; exact RC2 cl n hn
        have ok := cancel_ok (a := -2) (b := 0) (o := 0) c4 c5
        obtain ⟨h1, a1, a2, a3⟩ := w_comes_W R0.1 hK hs cl hn ok
        have a1 : f_X11_comes 616 (nI (16 * s + n)) 11 (-2) 0 0 (pI h 1200 616 0) = some (if (shBring (nI c) (W s) n 11 (-2) 0 0).1 = true then 1 else 0, h1) := a1
        obtain ⟨E9, -, gr9⟩ := bring_S (nI c) ⟨RC.2.1.1, RC2, RC3⟩ cl hn ok
        have fin := aft_act (r := if (shBring (nI c) (W s) n 11 (-2) 0 0).1 = true then 1 else 0) hK R0 e0 f0 a2 a3 (WdT_act R0.2.2.1 gr9.2.2.2.2.2.2)
        cases cb : (shBring (nI c) (W s) n 11 (-2) 0 0).1 with
        | true =>
          rw [cb, if_pos rfl] at a1 fin
          simp only [f_X11_cancel, o10, o00, bh, isO, inR, ck_true, bind_some9, Nat.reduceLeDiff, Nat.reduceEqDiff, and_self, and_true, true_and, false_and, and_false, not_false_eq_true, not_true_eq_false, or_self, or_false, false_or, if_true, if_false, reduceIte, RF_o H, RF_1243 H, RO_651 H, RL_651 H, zR_pE, zT_pE, zL_pE, zn_pE, zE_pE, zI_pE, zR_pI, zT_pI, zL_pI, zn_pI, zE_pI, zI_pI, eF, ep, eW, nw, gw, lw, e51, d4, a1, iB1]
          exact aftB_t fin
        | false =>
          rw [cb, if_neg Bool.noConfusion] at a1 fin
          simp only [f_X11_cancel, o10, o00, bh, isO, inR, ck_true, bind_some9, Nat.reduceLeDiff, Nat.reduceEqDiff, and_self, and_true, true_and, false_and, and_false, not_false_eq_true, not_true_eq_false, or_self, or_false, false_or, if_true, if_false, reduceIte, RF_o H, RF_1243 H, RO_651 H, RL_651 H, zR_pE, zT_pE, zL_pE, zn_pE, zE_pE, zI_pE, zR_pI, zT_pI, zL_pI, zn_pI, zE_pI, zI_pI, eF, ep, eW, nw, gw, lw, e51, d4, a1, iB0]
          exact aftB_f fin
theorem le20 : ((2 : Int32) ≤ 0) = False := eq_false (by decide)
theorem le10 : ((1 : Int32) ≤ 0) = False := eq_false (by decide)
theorem w_query {vs : Nat → List Prg} {c : Nat} {TX : List (Nat × Nat × Nat × Prg)} {K tk : Nat} {h : Hp} {W : Wld} (hK : K ≤ 1600) (R : RT vs c TX K tk h W) (w v : Int32) : aft vs c TX K tk h W (wdQuery W w v).1 (wdQuery W w v).2 (f_X11_query 616 w v h) := by
  obtain ⟨G, tb, bs⟩ := R.1.base hK
  have H := G.1
  have stay : ∀ t r : Int32, aft vs c TX K tk h W t r (some (r, pI h 1200 616 t)) := fun t r => by
    obtain ⟨R0, e0, f0⟩ := R.th hK t
    exact ⟨_, rfl, e0, R0, f0⟩
  have eF := w_isFlow R.1 hK w
  unfold wdQuery
  cases ef : flw W w with
  | none =>
    rw [ef] at eF
    have eF : f_X11_isFlow 616 w h = some (0, h) := eF
    simp only [f_X11_query, f_X11_query_18, f_X11_query_38, o10, o00, bh, isO, inR, ck_true, bind_some9, Nat.reduceLeDiff, Nat.reduceEqDiff, and_self, and_true, true_and, false_and, and_false, not_false_eq_true, not_true_eq_false, or_self, or_false, false_or, if_true, if_false, reduceIte, RF_o H, RF_1245 H, RO_653 H, RL_653 H, zR_pE, zT_pE, zL_pE, zn_pE, zE_pE, zI_pE, zR_pI, zT_pI, zL_pI, zn_pI, zE_pI, zI_pI, eF, le10]
    exact stay 1 0
  | some sn =>
    obtain ⟨s, n⟩ := sn
    rw [ef] at eF
    have eF : f_X11_isFlow 616 w h = some (1, h) := eF
    obtain ⟨hs, hn, hn16, ew, ep⟩ := flw_64 R.1 hK ef
    have eW := w_works R.1 hK hs hn16
    simp only []
    by_cases cv : v < 0 ∨ (8 : Int32) ≤ v
    · have ei := w_no (h := h) cv
      rw [if_pos cv]
      simp only [f_X11_query, f_X11_query_18, f_X11_query_38, o10, o00, bh, isO, inR, ck_true, bind_some9, Nat.reduceLeDiff, Nat.reduceEqDiff, and_self, and_true, true_and, false_and, and_false, not_false_eq_true, not_true_eq_false, or_self, or_false, false_or, if_true, if_false, reduceIte, RF_o H, RF_1245 H, RO_653 H, RL_653 H, zR_pE, zT_pE, zL_pE, zn_pE, zE_pE, zI_pE, zR_pI, zT_pI, zL_pI, zn_pI, zE_pI, zI_pI, eF, ei, le10]
      exact stay 1 0
    · have ei := w_yes (h := h) cv
      rw [if_neg cv]
      by_cases cl : shL (W s) = -1
      · rw [if_pos cl] at eW ⊢
        simp only [f_X11_query, f_X11_query_18, f_X11_query_38, o10, o00, bh, isO, inR, ck_true, bind_some9, Nat.reduceLeDiff, Nat.reduceEqDiff, and_self, and_true, true_and, false_and, and_false, not_false_eq_true, not_true_eq_false, or_self, or_false, false_or, if_true, if_false, reduceIte, RF_o H, RF_1245 H, RO_653 H, RL_653 H, zR_pE, zT_pE, zL_pE, zn_pE, zE_pE, zI_pE, zR_pI, zT_pI, zL_pI, zn_pI, zE_pI, zI_pI, eF, ei, ep, eW, le20]
        exact stay 2 0
      · rw [if_neg cl] at eW ⊢
        obtain ⟨vn, vn1, rfl⟩ := zi_of (fun z => cv (Or.inl z))
        have hv8 : vn < 8 := by
          have : ¬ nI 8 ≤ nI vn := fun z => cv (Or.inr z)
          rw [zi_le (by omega) vn1] at this
          omega
        obtain ⟨E, ev, rf, tk9, l1, l5, -⟩ := R.1.row hs hn
        have e53 := rf.2.1 vn hv8
        rw [← l5] at e53
        have nw : (nI (8 * (16 * s + n) + vn)).toNatClampNeg = 8 * (16 * s + n) + vn := zi_nat (by omega)
        have gw : ¬ nI (8 * (16 * s + n) + vn) < 0 := zi_neg (by omega)
        have lw : ¬ 512 ≤ 8 * (16 * s + n) + vn := by omega
        simp only [f_X11_query, f_X11_query_18, f_X11_query_38, o10, o00, bh, isO, inR, ck_true, bind_some9, Nat.reduceLeDiff, Nat.reduceEqDiff, and_self, and_true, true_and, false_and, and_false, not_false_eq_true, not_true_eq_false, or_self, or_false, false_or, if_true, if_false, reduceIte, RF_o H, RF_1245 H, RO_653 H, RL_653 H, zR_pE, zT_pE, zL_pE, zn_pE, zE_pE, zI_pE, zR_pI, zT_pI, zL_pI, zn_pI, zE_pI, zI_pI, eF, ei, ep, eW, le00, zi_8, nw, gw, lw, e53]
        rw [zi_nat (by omega : vn < 2147483648)]
        exact stay 0 _
/-! TASKS AND LEASES, IN THE REFERENCE -/
theorem w_workOf_go {h : Hp} (H : RF h) {N w : Nat} {E : List Nat} {es : List Evt} (hw : w < 64) (hN : N ≤ 60000) (ev : evsAt h N w E es) : ∀ (j fuel : Nat), j < es.length → j < fuel → hasW (es.take (j + 1)) → ∃ i, f_X11_workOf_9 fuel 616 (nI w) (nI j) h = some (nI i, h) ∧ i < 60000 ∧ zE h 635 i = (lwk (es.take (j + 1))).1 ∧ zE h 636 i = (lwk (es.take (j + 1))).2
  | j, 0, _, hf, _ => absurd hf (Nat.not_lt_zero _)
  | j, fuel + 1, hj, hf, hh => by
    have hes := ev.2.1.2
    obtain ⟨i, rn, rt, hi, hrn, hK, hiE, hrec⟩ := ev.at hj
    have eE := w_event H hw (by omega) hiE
    have eK : f_X11_kindOf 616 (nI i) h = some (nI (evAt es j).1, h) := w_kind H (by omega) hrec hK hrn
    have et := take_snoc hj
    rw [et] at hh ⊢
    rw [lwk_snoc]
    have q1 : nI (evAt es j).1 = (1 : Int32) ↔ (evAt es j).1 = 1 := zi_eq (b := 1) (by omega) (by omega)
    by_cases c1 : (evAt es j).1 = 1
    · have d := eq_true (q1.mpr c1)
      rw [if_pos c1]
      refine ⟨i, ?_, by omega, hrec.2.2.1, hrec.2.2.2.1⟩
      simp only [f_X11_workOf_9, o10, o00, bh, isO, inR, ck_true, bind_some9, Nat.reduceLeDiff, Nat.reduceEqDiff, and_self, and_true, true_and, false_and, and_false, not_false_eq_true, not_true_eq_false, or_self, or_false, false_or, if_true, if_false, reduceIte, RF_o H, zR_pE, zT_pE, zL_pE, zn_pE, zE_pE, zI_pE, zR_pI, zT_pI, zL_pI, zn_pI, zE_pI, zI_pI, eE, eK, d]
    · have d := eq_false (fun z => c1 (q1.mp z))
      rw [if_neg c1]
      have hh := ((hasW_snoc _ _).mp hh).resolve_right c1
      cases j with
      | zero =>
        rw [List.take_zero] at hh
        obtain ⟨e, he, -⟩ := hh
        cases he
      | succ j =>
        obtain ⟨i9, a1, a2⟩ := w_workOf_go H hw hN ev j fuel (by omega) (by omega) hh
        refine ⟨i9, ?_, a2⟩
        have em : nI (j + 1) + (-1 : Int32) = nI j := by
          have := zi_sub (a := j + 1) (b := 1) (by omega)
          rw [show j + 1 - 1 = j from rfl] at this
          rw [← this, Int32.sub_eq_add_neg]
          rfl
        rw [← a1]
        simp only [f_X11_workOf_9, o10, o00, bh, isO, inR, ck_true, bind_some9, Nat.reduceLeDiff, Nat.reduceEqDiff, and_self, and_true, true_and, false_and, and_false, not_false_eq_true, not_true_eq_false, or_self, or_false, false_or, if_true, if_false, reduceIte, RF_o H, zR_pE, zT_pE, zL_pE, zn_pE, zE_pE, zI_pE, zR_pI, zT_pI, zL_pI, zn_pI, zE_pI, zI_pI, eE, eK, d, em]
theorem w_workOf {h : Hp} (H : RF h) {N w : Nat} {E : List Nat} {es : List Evt} (hw : w < 64) (hN : N ≤ 60000) (ev : evsAt h N w E es) (hh : hasW es) : ∃ i, f_X11_workOf 616 (nI w) h = some (nI i, h) ∧ i < 60000 ∧ zE h 635 i = (lwk es).1 ∧ zE h 636 i = (lwk es).2 := by
  have hes := ev.2.1.2
  have hl : 0 < es.length := by
    obtain ⟨e, he, -⟩ := hh
    exact List.length_pos_of_mem he
  obtain ⟨i, a1, a2⟩ := w_workOf_go H hw hN ev (es.length - 1) fz (by omega) (fz_big (by omega)) (by rw [show es.length - 1 + 1 = es.length by omega, List.take_length]; exact hh)
  rw [show es.length - 1 + 1 = es.length by omega, List.take_length] at a2
  refine ⟨i, ?_, a2⟩
  have nx : (nI w).toNatClampNeg = w := zi_nat (by omega)
  have gx : ¬ nI w < 0 := zi_neg (by omega)
  have lx : ¬ 64 ≤ w := by omega
  have e49 := ev.1
  have e1 : nI es.length - (1 : Int32) = nI (es.length - 1) := zi_sub (b := 1) (by omega)
  simp only [f_X11_workOf, o10, o00, bh, isO, inR, ck_true, bind_some9, Nat.reduceLeDiff, Nat.reduceEqDiff, and_self, and_true, true_and, false_and, and_false, not_false_eq_true, not_true_eq_false, or_self, or_false, false_or, if_true, if_false, reduceIte, RF_o H, RF_1241 H, RO_649 H, RL_649 H, zR_pE, zT_pE, zL_pE, zn_pE, zE_pE, zI_pE, zR_pI, zT_pI, zL_pI, zn_pI, zE_pI, zI_pI, nx, gx, lx, e49, e1, a1]
theorem RW.task {vs : Nat → List Prg} {now : Int32} {TX : List (Nat × Nat × Nat × Prg)} {K : Nat} {h : Hp} {W : Wld} (R : RW vs now TX K h W) {s n : Nat} (hs : s < 4) (hn : n < shN (W s)) (h0 : wkP (flW (shF (W s) n)) = 0) : hasW (flE (shF (W s) n)) ∧ lwk (flE (shF (W s) n)) = ((flT (shF (W s) n)).1, (flT (shF (W s) n)).2.1) ∧ ∃ k, 1 ≤ k ∧ k ≤ 4 ∧ (flT (shF (W s) n)).2.2.1 = nI k := by
  obtain ⟨C, RC, -⟩ := R s hs
  have hI := RC.2.1.1
  obtain ⟨s1, s2, s3⟩ := hI.2.1
  have z := s3 n (by rw [← s1]; exact hn)
  obtain ⟨z1, z2, z3, z4⟩ := z
  have hw : hasW (flE (shF (W s) n)) := phase_hasW _ (hI.len hn).1 (Or.inr (by rw [← hI.rp hn]; exact h0))
  obtain ⟨t1, t2⟩ := z4 hw
  exact ⟨hw, t1.symm, t2⟩
def bI (b : Option Nat) : Int32 := match b with
  | none => -1
  | some x => nI (16 * (x % 4) + x / 4)
theorem w_poll_end (kind l2 : Int32) (fuel : Nat) (h : Hp) : f_X11_poll_9 (fuel + 1) 616 kind l2 (nI 64) h = f_X11_poll_9 1 616 kind l2 (nI 64) h := by
  have c : (64 : Int32) ≤ nI 64 := by decide
  conv => lhs; unfold f_X11_poll_9
  conv => rhs; unfold f_X11_poll_9
  rw [if_pos c, if_pos c]
theorem bst_none {W : Wld} {now kind : Int32} {k : Nat} (h : offr W now kind k = true) : bst W now kind none k = some k := by unfold bst; rw [if_pos h]
theorem bst_some {W : Wld} {now kind : Int32} {k x : Nat} (h : offr W now kind k = true) : bst W now kind (some x) k = if snc W k < snc W x then some k else some x := by unfold bst; rw [if_pos h]
theorem w_poll_9 {vs : Nat → List Prg} {now : Int32} {TX : List (Nat × Nat × Nat × Prg)} {K : Nat} {h : Hp} {W : Wld} (R : RW vs now TX K h W) (hK : K ≤ 1600) (kind : Int32) : ∀ (m k fuel : Nat) (b : Option Nat), k + m = 64 → m < fuel → (∀ x, b = some x → offr W now kind x = true ∧ x < 64) → f_X11_poll_9 fuel 616 kind (bI b) (nI k) h = f_X11_poll_9 1 616 kind (bI ((List.range' k m).foldl (bst W now kind) b)) (nI 64) h
  | m, k, 0, b, _, hf, _ => absurd hf (Nat.not_lt_zero _)
  | 0, k, fuel + 1, b, hk, hf, hb => by
    have : k = 64 := by omega
    rw [this]
    exact w_poll_end kind (bI b) fuel h
  | m + 1, k, fuel + 1, b, hk, hf, hb => by
    obtain ⟨G, tb, bs⟩ := R.base hK
    have H := G.1
    have en := G.2.2.1
    have c : ¬ (64 : Int32) ≤ nI k := zi_le0 (a := 64) (by omega) (by omega) (by omega)
    have eF := w_isFlow R hK (nI k)
    have nk : (nI k).toNatClampNeg = k := zi_nat (by omega)
    have gk : ¬ nI k < 0 := zi_neg (by omega)
    rw [List.range'_succ, List.foldl_cons]
    have flat : bst W now kind b k = b → f_X11_poll_9 (fuel + 1) 616 kind (bI b) (nI k) h = f_X11_poll_9 fuel 616 kind (bI b) (nI (k + 1)) h → f_X11_poll_9 (fuel + 1) 616 kind (bI b) (nI k) h = f_X11_poll_9 1 616 kind (bI ((List.range' (k + 1) m).foldl (bst W now kind) (bst W now kind b k))) (nI 64) h := fun e1 e2 => by
      rw [e1, e2]
      exact w_poll_9 R hK kind m (k + 1) fuel b (by omega) (by omega) hb
    have noo : offr W now kind k = false → bst W now kind b k = b := fun z => by unfold bst; rw [if_neg (by rw [z]; exact fun q => Bool.noConfusion q)]
    by_cases ck1 : k / 4 < shN (W (k % 4))
    · have ef : flw W (nI k) = some (k % 4, k / 4) := by unfold flw; rw [if_neg gk, nk, if_pos ck1]
      rw [ef] at eF
      have eF : f_X11_isFlow 616 (nI k) h = some (1, h) := eF
      have hs : k % 4 < 4 := by omega
      have hn16 : k / 4 < 16 := by omega
      have ep := w_placeOf (h := h) (m := k) (by omega)
      have eW := w_works R hK hs hn16
      by_cases cl : shL (W (k % 4)) = -1
      · rw [if_pos cl] at eW
        refine flat (noo (decide_eq_false (fun z => z.2.1 cl))) ?_
        simp only [f_X11_poll_9, f_X11_poll_85, f_X11_poll_86, f_X11_poll_117, o10, o00, bh, isO, inR, ck_true, bind_some9, Nat.reduceLeDiff, Nat.reduceEqDiff, and_self, and_true, true_and, false_and, and_false, not_false_eq_true, not_true_eq_false, or_self, or_false, false_or, if_true, if_false, reduceIte, RF_o H, RF_1227 H, RO_635 H, RL_635 H, RF_1252 H, RO_660 H, RL_660 H, RF_1253 H, RO_661 H, RL_661 H, RF_1254 H, RO_662 H, RL_662 H, RF_1255 H, RO_663 H, RL_663 H, zR_pE, zT_pE, zL_pE, zn_pE, zE_pE, zI_pE, zR_pI, zT_pI, zL_pI, zn_pI, zE_pI, zI_pI, c, eF, ep, eW, zi_one]
      · rw [if_neg cl] at eW
        obtain ⟨E, ev, rf, tk9, l1, l5, -⟩ := R.row hs ck1
        have nw : (nI (16 * (k % 4) + k / 4)).toNatClampNeg = 16 * (k % 4) + k / 4 := zi_nat (by omega)
        have gw : ¬ nI (16 * (k % 4) + k / 4) < 0 := zi_neg (by omega)
        have lw : ¬ 64 ≤ 16 * (k % 4) + k / 4 := by omega
        have e60 := tk9.1
        by_cases c0 : wkP (flW (shF (W (k % 4)) (k / 4))) = 0 ∧ flK (shF (W (k % 4)) (k / 4)) = 0
        · rw [if_pos c0.1, if_pos c0.2] at e60
          have d1 := eq_true e60
          have e61 := (tk9.2 c0.1).1.1
          by_cases cs : (flT (shF (W (k % 4)) (k / 4))).2.2.2.1 ≤ now
          · have ds := eq_false (Int32.not_lt.mpr cs)
            obtain ⟨hw9, elw, -⟩ := R.task hs ck1 c0.1
            obtain ⟨i, i1, i2, i3, -⟩ := w_workOf H (by omega : 16 * (k % 4) + k / 4 < 64) (by omega : totQ W ≤ 60000) ev hw9
            have ni : (nI i).toNatClampNeg = i := zi_nat (by omega)
            have gi : ¬ nI i < 0 := zi_neg (by omega)
            have li : ¬ 60000 ≤ i := by omega
            rw [elw] at i3
            have i3 : zE h 635 i = (flT (shF (W (k % 4)) (k / 4))).1 := i3
            by_cases cq : (flT (shF (W (k % 4)) (k / 4))).1 = kind
            · have dq := eq_true cq
              have yes : offr W now kind k = true := decide_eq_true ⟨ck1, cl, c0.1, c0.2, cs, cq⟩
              have hk9 : bI (some k) = nI (16 * (k % 4) + k / 4) := rfl
              have nxt := w_poll_9 R hK kind m (k + 1) fuel (bst W now kind b k) (by omega) (by omega) (fun x hx => by
                cases b with
                | none => rw [bst_none yes] at hx; have hx := Option.some.inj hx; rw [← hx]; exact ⟨yes, by omega⟩
                | some y =>
                  rw [bst_some yes] at hx
                  split at hx
                  · have hx := Option.some.inj hx; rw [← hx]; exact ⟨yes, by omega⟩
                  · have hx := Option.some.inj hx; rw [← hx]; exact hb y rfl)
              rw [← nxt]
              cases b with
              | none =>
                rw [bst_none yes]
                have key : ∀ M1 : Int32, M1 = -1 → f_X11_poll_9 (fuel + 1) 616 kind M1 (nI k) h = f_X11_poll_9 fuel 616 kind (nI (16 * (k % 4) + k / 4)) (nI (k + 1)) h := fun M1 hm1 => by
                  have dm := eq_true hm1
                  simp only [f_X11_poll_9, f_X11_poll_85, f_X11_poll_86, f_X11_poll_117, f_X11_poll_114, o10, o00, bh, isO, inR, ck_true, bind_some9, Nat.reduceLeDiff, Nat.reduceEqDiff, and_self, and_true, true_and, false_and, and_false, not_false_eq_true, not_true_eq_false, or_self, or_false, false_or, if_true, if_false, reduceIte, RF_o H, RF_1227 H, RO_635 H, RL_635 H, RF_1252 H, RO_660 H, RL_660 H, RF_1253 H, RO_661 H, RL_661 H, RF_1254 H, RO_662 H, RL_662 H, RF_1255 H, RO_663 H, RL_663 H, zR_pE, zT_pE, zL_pE, zn_pE, zE_pE, zI_pE, zR_pI, zT_pI, zL_pI, zn_pI, zE_pI, zI_pI, c, eF, ep, eW, nw, gw, lw, d1, e61, en, ds, i1, ni, gi, li, i3, dq, dm, zi_one]
                exact key (-1) rfl
              | some x =>
                obtain ⟨hox, hx64⟩ := hb x rfl
                obtain ⟨x1, x2, x3, x4, x5, x6⟩ := of_decide_eq_true hox
                have hsx : x % 4 < 4 := by omega
                obtain ⟨Ex, evx, rfx, tkx, -⟩ := R.row hsx x1
                have e61x : zE h 661 (16 * (x % 4) + x / 4) = snc W x := (tkx.2 x3).1.1
                have e61k : zE h 661 (16 * (k % 4) + k / 4) = snc W k := e61
                have nwx : (nI (16 * (x % 4) + x / 4)).toNatClampNeg = 16 * (x % 4) + x / 4 := zi_nat (by omega)
                have gwx : ¬ nI (16 * (x % 4) + x / 4) < 0 := zi_neg (by omega)
                have lwx : ¬ 64 ≤ 16 * (x % 4) + x / 4 := by omega
                have dmx := eq_false (zi_ne1 (by omega : 16 * (x % 4) + x / 4 < 2147483648))
                rw [bst_some yes]
                show f_X11_poll_9 (fuel + 1) 616 kind (nI (16 * (x % 4) + x / 4)) (nI k) h = f_X11_poll_9 fuel 616 kind (bI (if snc W k < snc W x then some k else some x)) (nI (k + 1)) h
                have ds2 : (now < snc W k) = False := eq_false (Int32.not_lt.mpr cs)
                by_cases cc : snc W k < snc W x
                · rw [if_pos cc, hk9]
                  have dc := eq_false (Int32.not_le.mpr cc)
                  simp only [f_X11_poll_9, f_X11_poll_85, f_X11_poll_86, f_X11_poll_117, f_X11_poll_114, o10, o00, bh, isO, inR, ck_true, bind_some9, Nat.reduceLeDiff, Nat.reduceEqDiff, and_self, and_true, true_and, false_and, and_false, not_false_eq_true, not_true_eq_false, or_self, or_false, false_or, if_true, if_false, reduceIte, RF_o H, RF_1227 H, RO_635 H, RL_635 H, RF_1252 H, RO_660 H, RL_660 H, RF_1253 H, RO_661 H, RL_661 H, RF_1254 H, RO_662 H, RL_662 H, RF_1255 H, RO_663 H, RL_663 H, zR_pE, zT_pE, zL_pE, zn_pE, zE_pE, zI_pE, zR_pI, zT_pI, zL_pI, zn_pI, zE_pI, zI_pI, c, eF, ep, eW, nw, gw, lw, d1, e61k, e61x, en, ds2, i1, ni, gi, li, i3, dq, dmx, nwx, gwx, lwx, dc, zi_one]
                · rw [if_neg cc]
                  have dc := eq_true (Int32.not_lt.mp cc)
                  show _ = f_X11_poll_9 fuel 616 kind (nI (16 * (x % 4) + x / 4)) (nI (k + 1)) h
                  simp only [f_X11_poll_9, f_X11_poll_85, f_X11_poll_86, f_X11_poll_117, f_X11_poll_114, o10, o00, bh, isO, inR, ck_true, bind_some9, Nat.reduceLeDiff, Nat.reduceEqDiff, and_self, and_true, true_and, false_and, and_false, not_false_eq_true, not_true_eq_false, or_self, or_false, false_or, if_true, if_false, reduceIte, RF_o H, RF_1227 H, RO_635 H, RL_635 H, RF_1252 H, RO_660 H, RL_660 H, RF_1253 H, RO_661 H, RL_661 H, RF_1254 H, RO_662 H, RL_662 H, RF_1255 H, RO_663 H, RL_663 H, zR_pE, zT_pE, zL_pE, zn_pE, zE_pE, zI_pE, zR_pI, zT_pI, zL_pI, zn_pI, zE_pI, zI_pI, c, eF, ep, eW, nw, gw, lw, d1, e61k, e61x, en, ds2, i1, ni, gi, li, i3, dq, dmx, nwx, gwx, lwx, dc, zi_one]
            · have dq := eq_false cq
              refine flat (noo (decide_eq_false (fun z => cq z.2.2.2.2.2))) ?_
              simp only [f_X11_poll_9, f_X11_poll_85, f_X11_poll_86, f_X11_poll_117, o10, o00, bh, isO, inR, ck_true, bind_some9, Nat.reduceLeDiff, Nat.reduceEqDiff, and_self, and_true, true_and, false_and, and_false, not_false_eq_true, not_true_eq_false, or_self, or_false, false_or, if_true, if_false, reduceIte, RF_o H, RF_1227 H, RO_635 H, RL_635 H, RF_1252 H, RO_660 H, RL_660 H, RF_1253 H, RO_661 H, RL_661 H, RF_1254 H, RO_662 H, RL_662 H, RF_1255 H, RO_663 H, RL_663 H, zR_pE, zT_pE, zL_pE, zn_pE, zE_pE, zI_pE, zR_pI, zT_pI, zL_pI, zn_pI, zE_pI, zI_pI, c, eF, ep, eW, nw, gw, lw, d1, e61, en, ds, i1, ni, gi, li, i3, dq, zi_one]
          · have ds := eq_true (Int32.not_le.mp cs)
            refine flat (noo (decide_eq_false (fun z => cs z.2.2.2.2.1))) ?_
            simp only [f_X11_poll_9, f_X11_poll_85, f_X11_poll_86, f_X11_poll_117, o10, o00, bh, isO, inR, ck_true, bind_some9, Nat.reduceLeDiff, Nat.reduceEqDiff, and_self, and_true, true_and, false_and, and_false, not_false_eq_true, not_true_eq_false, or_self, or_false, false_or, if_true, if_false, reduceIte, RF_o H, RF_1227 H, RO_635 H, RL_635 H, RF_1252 H, RO_660 H, RL_660 H, RF_1253 H, RO_661 H, RL_661 H, RF_1254 H, RO_662 H, RL_662 H, RF_1255 H, RO_663 H, RL_663 H, zR_pE, zT_pE, zL_pE, zn_pE, zE_pE, zI_pE, zR_pI, zT_pI, zL_pI, zn_pI, zE_pI, zI_pI, c, eF, ep, eW, nw, gw, lw, d1, e61, en, ds, zi_one]
        · have d1 : (zE h 660 (16 * (k % 4) + k / 4) = 1) = False := eq_false (fun z => by
            rw [e60] at z
            by_cases y0 : wkP (flW (shF (W (k % 4)) (k / 4))) = 0
            · rw [if_pos y0] at z
              by_cases yk : flK (shF (W (k % 4)) (k / 4)) = 0
              · exact c0 ⟨y0, yk⟩
              · rw [if_neg yk] at z; exact absurd z (by decide)
            · rw [if_neg y0] at z; exact absurd z (by decide))
          refine flat (noo (decide_eq_false (fun z => c0 ⟨z.2.2.1, z.2.2.2.1⟩))) ?_
          simp only [f_X11_poll_9, f_X11_poll_85, f_X11_poll_86, f_X11_poll_117, o10, o00, bh, isO, inR, ck_true, bind_some9, Nat.reduceLeDiff, Nat.reduceEqDiff, and_self, and_true, true_and, false_and, and_false, not_false_eq_true, not_true_eq_false, or_self, or_false, false_or, if_true, if_false, reduceIte, RF_o H, RF_1227 H, RO_635 H, RL_635 H, RF_1252 H, RO_660 H, RL_660 H, RF_1253 H, RO_661 H, RL_661 H, RF_1254 H, RO_662 H, RL_662 H, RF_1255 H, RO_663 H, RL_663 H, zR_pE, zT_pE, zL_pE, zn_pE, zE_pE, zI_pE, zR_pI, zT_pI, zL_pI, zn_pI, zE_pI, zI_pI, c, eF, ep, eW, nw, gw, lw, d1, zi_one]
    · have ef : flw W (nI k) = none := by unfold flw; rw [if_neg gk, nk, if_neg ck1]
      rw [ef] at eF
      have eF : f_X11_isFlow 616 (nI k) h = some (0, h) := eF
      refine flat (noo (decide_eq_false (fun z => ck1 z.1))) ?_
      simp only [f_X11_poll_9, f_X11_poll_117, o10, o00, bh, isO, inR, ck_true, bind_some9, Nat.reduceLeDiff, Nat.reduceEqDiff, and_self, and_true, true_and, false_and, and_false, not_false_eq_true, not_true_eq_false, or_self, or_false, false_or, if_true, if_false, reduceIte, RF_o H, RF_1227 H, RO_635 H, RL_635 H, RF_1252 H, RO_660 H, RL_660 H, RF_1253 H, RO_661 H, RL_661 H, RF_1254 H, RO_662 H, RL_662 H, RF_1255 H, RO_663 H, RL_663 H, zR_pE, zT_pE, zL_pE, zn_pE, zE_pE, zI_pE, zR_pI, zT_pI, zL_pI, zn_pI, zE_pI, zI_pI, c, eF, zi_one]
def lsS (w : Nat) (a j : Nat) : Prop := (a = 660 ∨ a = 662 ∨ a = 663) ∧ j = w
theorem RW.lease {vs : Nat → List Prg} {now : Int32} {TX : List (Nat × Nat × Nat × Prg)} {K : Nat} {h h1 : Hp} {W : Wld} (R : RW vs now TX K h W) (hK : K + 1 ≤ 1600) {s n : Nat} (hs : s < 4) (hl : shL (W s) ≠ -1) (hn : n < shN (W s)) (h0 : wkP (flW (shF (W s) n)) = 0) {k u : Int32} (hk : k ≠ 0) (f : frx (lsS (16 * s + n)) h h1) (e0 : zE h1 660 (16 * s + n) = 2) (e3 : zE h1 663 (16 * s + n) = k) (e2 : zE h1 662 (16 * s + n) = u) : RW vs now TX (K + 1) h1 (wdLease W s n k u) := by
  have R' := R.moreK (Nat.le_succ K) hK
  obtain ⟨C, RC, RC2, RC3⟩ := R' s hs
  obtain ⟨C0, RC0, RC02, RC03⟩ := R s hs
  obtain ⟨G, tb, -⟩ := R.base (by omega)
  have os := othQ_add W hs
  obtain ⟨lS, lY⟩ := lease_S ⟨RC0.2.1.1, RC02, RC03⟩ hl hn h0 k u
  obtain ⟨⟨g1, g2, g3, g4, ⟨g5, g6⟩, g7⟩, ⟨hI, hY⟩, I, EE, sd, mn, fw, ob⟩ := RC0
  have hN16 := N16 hI
  have f2p : frx (fpS s (totQ W)) h h1 := f.mono (fun a j z => Or.inl (Or.inr (Or.inr (Or.inr (Or.inr (Or.inl ⟨by unfold lsS at z; omega, by unfold lsS at z; omega⟩))))))
  refine R'.act (C := C0) hK hs f2p ⟨⟨g1.on f, ?_, ?_, g4.on f (fun a j z1 z2 z => by unfold lsS at z; omega), ⟨g5, by omega⟩, g7⟩, ⟨lS.1, by omega⟩, I, EE, ?_, ?_, ?_, ?_⟩ lS.2.1 lS.2.2 (Nat.le_refl _)
  · show _ = nI (othQ W s + shQ (W s))
    rw [f.2.2.1 1224 (by unfold lsS; omega)]; exact g2
  · rw [f.2.2.1 1201 (by unfold lsS; omega)]; exact g3
  · exact (sdAt_same (u := shSetF (W s) n (flP (shF (W s) n), flE (shF (W s) n), flW (shF (W s) n), tkLease (flT (shF (W s) n)) k u)) sd rfl rfl rfl rfl).on f (fun a i _ => by unfold lsS; omega) (fun a j z => by obtain ⟨r, -, z⟩ := z; unfold dkS at z; unfold lsS; omega) (fun a g => by unfold lsS; omega)
  · show mnAt _ s (shN (W s))
    refine ⟨⟨by rw [f.2.2.2 647 _ (by unfold lsS; omega)]; exact mn.1.1, hN16⟩, fun x g1 g2 => by rw [f.2.2.2 660 _ (by unfold lsS; omega)]; exact mn.2 x g1 g2⟩
  · show fwAt _ _ s EE (shN (W s)) (upf (shF (W s)) n (flP (shF (W s) n), flE (shF (W s) n), flW (shF (W s) n), tkLease (flT (shF (W s) n)) k u))
    have eEE : EE = upf EE n (EE n) := (upf_same EE n).symm
    rw [eEE]
    refine fw_row (n := n) (fun x hx _ => fw x hx) f (fun a i _ => by unfold lsS; omega) (fun x hx hxn a g => by unfold lsS; omega) (fun x hx hxn j g => by unfold lsS; omega) (fun x hx hxn j g => by unfold lsS; omega) (fun _ => ?_)
    obtain ⟨y1, y2, y3⟩ := fw n hn
    refine ⟨y1.on f (fun a i _ => by unfold lsS; omega) (fun a j z => by unfold evS at z; unfold lsS; omega), y2.on f (fun a g => by unfold lsS; omega) (fun v hv => by unfold lsS; omega), ?_⟩
    unfold tkAt at y3 ⊢
    show _ = (if wkP (flW (shF (W s) n)) = 0 then (if k = 0 then 1 else 2) else 0) ∧ (wkP (flW (shF (W s) n)) = 0 → (_ = (flT (shF (W s) n)).2.2.2.1 ∧ _ = (flT (shF (W s) n)).2.2.1) ∧ (k ≠ 0 → _ = k ∧ _ = u))
    rw [if_pos h0, if_neg hk]
    exact ⟨e0, fun _ => ⟨⟨by rw [f.2.2.2 661 _ (by unfold lsS; omega)]; exact (y3.2 h0).1.1, by rw [f.2.2.2 664 _ (by unfold lsS; omega)]; exact (y3.2 h0).1.2⟩, fun _ => ⟨e3, e2⟩⟩⟩
  · exact ob.on f (by unfold lsS; omega) (fun a k g _ => by unfold lsS; omega)
theorem poll_some {W : Wld} {now kind : Int32} : ∀ (l : List Nat) (b : Option Nat) (x : Nat), l.foldl (bst W now kind) b = some x → b = some x ∨ (offr W now kind x = true ∧ x ∈ l)
  | [], b, x, h => Or.inl h
  | a :: r, b, x, h => by
    rcases poll_some r (bst W now kind b a) x h with z | ⟨z1, z2⟩
    · by_cases c : offr W now kind a = true
      · cases b with
        | none => rw [bst_none c] at z; have z := Option.some.inj z; rw [← z]; exact Or.inr ⟨c, List.mem_cons_self ..⟩
        | some y =>
          rw [bst_some c] at z
          split at z
          · have z := Option.some.inj z; rw [← z]; exact Or.inr ⟨c, List.mem_cons_self ..⟩
          · exact Or.inl z
      · unfold bst at z
        rw [if_neg c] at z
        exact Or.inl z
    · exact Or.inr ⟨z1, List.mem_cons_of_mem _ z2⟩
theorem pollN_ok {W : Wld} {now kind : Int32} {x : Nat} (h : pollN W now kind 64 = some x) : offr W now kind x = true ∧ x < 64 := by
  rcases poll_some _ _ x h with z | ⟨z1, z2⟩
  · cases z
  · exact ⟨z1, List.mem_range.mp z2⟩
/-- a new token -/
theorem WdT_new {tk : Nat} {W : Wld} (T : WdT tk W) (htk : tk < 1000000) {s n : Nat} (hs : s < 4) (hn : n < shN (W s)) (u : Int32) : WdT (tk + 1) (wdLease W s n (nI (tk + 1)) u) := by
  have eN : ∀ a, shN (wdLease W s n (nI (tk + 1)) u a) = shN (W a) := fun a => by
    unfold wdLease
    by_cases c : a = s
    · rw [show upf W s _ a = _ from if_pos c, c]; rfl
    · rw [show upf W s _ a = W a from if_neg c]
  have eK : ∀ a m, flK (shF (wdLease W s n (nI (tk + 1)) u a) m) = if a = s ∧ m = n then nI (tk + 1) else flK (shF (W a) m) := fun a m => by
    unfold wdLease
    by_cases c : a = s
    · rw [show upf W s _ a = _ from if_pos c]
      show flK (upf (shF (W s)) n _ m) = _
      by_cases d : m = n
      · rw [show upf (shF (W s)) n _ m = _ from if_pos d, if_pos ⟨c, d⟩]; rfl
      · rw [show upf (shF (W s)) n _ m = shF (W s) m from if_neg d, if_neg (fun z => d z.2), c]
    · rw [show upf W s _ a = W a from if_neg c, if_neg (fun z => c z.1)]
  obtain ⟨t1, t2⟩ := T
  have old : ∀ a m, a < 4 → m < shN (W a) → flK (shF (W a) m) ≠ nI (tk + 1) := fun a m ha hm z => by
    rcases t1 a m ha hm with y | ⟨t, y1, y2, y3⟩
    · rw [y] at z
      have := (zi_eq (a := 0) (b := tk + 1) (by omega) (by omega)).mp z
      omega
    · rw [y3] at z
      have := (zi_eq (by omega) (by omega)).mp z
      omega
  refine ⟨fun a m ha hm => ?_, fun a m a1 m1 ha ha1 hm hm1 e ne => ?_⟩
  · rw [eN] at hm
    rw [eK]
    by_cases c : a = s ∧ m = n
    · rw [if_pos c]; exact Or.inr ⟨tk + 1, by omega, Nat.le_refl _, rfl⟩
    · rw [if_neg c]
      rcases t1 a m ha hm with y | ⟨t, y1, y2, y3⟩
      · exact Or.inl y
      · exact Or.inr ⟨t, y1, by omega, y3⟩
  · rw [eN] at hm hm1
    rw [eK, eK] at e
    rw [eK] at ne
    by_cases c : a = s ∧ m = n
    · rw [if_pos c] at e
      by_cases c1 : a1 = s ∧ m1 = n
      · exact ⟨by rw [c.1, c1.1], by rw [c.2, c1.2]⟩
      · rw [if_neg c1] at e
        exact absurd e.symm (old a1 m1 ha1 hm1)
    · rw [if_neg c] at e ne
      by_cases c1 : a1 = s ∧ m1 = n
      · rw [if_pos c1] at e
        exact absurd e (old a m ha hm)
      · rw [if_neg c1] at e
        exact t2 a m a1 m1 ha ha1 hm hm1 e ne
theorem RT.moreK {vs : Nat → List Prg} {c : Nat} {TX : List (Nat × Nat × Nat × Prg)} {K K1 tk : Nat} {h : Hp} {W : Wld} (R : RT vs c TX K tk h W) (hK : K ≤ K1) (h1 : K1 ≤ 1600) : RT vs c TX K1 tk h W := ⟨R.1.moreK hK h1, R.2⟩
theorem aft.moreK {vs : Nat → List Prg} {c : Nat} {TX : List (Nat × Nat × Nat × Prg)} {K K1 tk : Nat} {h : Hp} {W : Wld} {t r : Int32} {x : Option (Int32 × Hp)} (a : aft vs c TX K tk h W t r x) (hK : K ≤ K1) (h1 : K1 ≤ 1600) : aft vs c TX K1 tk h W t r x := by
  obtain ⟨g, a1, a2, a3, a4⟩ := a
  exact ⟨g, a1, a2, a3.moreK hK h1, a4⟩
theorem w_poll {vs : Nat → List Prg} {c : Nat} {TX : List (Nat × Nat × Nat × Prg)} {K tk : Nat} {h : Hp} {W : Wld} (hK : K + 1 ≤ 1600) (htk : tk < 1000000) (R : RT vs c TX K tk h W) (kind : Int32) : (pollN W (nI c) kind 64 = none → aft vs c TX K tk h W 0 (-1) (f_X11_poll 616 kind h)) ∧ (∀ w, pollN W (nI c) kind 64 = some w → aft vs c TX (K + 1) (tk + 1) h (wdPoll (nI c) W tk kind).2 0 (nI (tk + 1)) (f_X11_poll 616 kind h)) := by
  obtain ⟨R0, e0, f0⟩ := R.th (by omega) 0
  obtain ⟨G, tb, bs⟩ := R.1.base (by omega)
  have H := G.1
  have en := G.2.2.1
  have etk := R.2.2.2
  have e1 := w_poll_9 R0.1 (by omega) kind 64 0 fz none (by omega) (fz_big (by omega)) (fun x hx => by cases hx)
  rw [← List.range_eq_range'] at e1
  have e1 : f_X11_poll_9 fz 616 kind (-1) (nI 0) (pI h 1200 616 0) = f_X11_poll_9 1 616 kind (bI (pollN W (nI c) kind 64)) (nI 64) (pI h 1200 616 0) := e1
  have e2 : f_X11_poll 616 kind h = f_X11_poll_9 1 616 kind (bI (pollN W (nI c) kind 64)) (nI 64) (pI h 1200 616 0) := by
    rw [← e1]
    unfold f_X11_poll
    rw [ck_yes (RF_o H)]
    exact (congrArg (fun z => f_X11_poll_9 fz 616 kind (-1) z (pI h 1200 616 0)) zi_zero)
  have c64 : (64 : Int32) ≤ nI 64 := by decide
  rw [e2]
  refine ⟨fun hp => ?_, fun w hp => ?_⟩
  · rw [hp]
    show aft vs c TX K tk h W 0 (-1) (f_X11_poll_9 1 616 kind (-1) (nI 64) (pI h 1200 616 0))
    unfold f_X11_poll_9
    rw [if_pos c64, if_pos rfl]
    exact ⟨_, rfl, e0, R0, f0⟩
  · obtain ⟨o1, o2⟩ := pollN_ok hp
    obtain ⟨x1, x2, x3, x4, x5, x6⟩ := of_decide_eq_true o1
    have hs : w % 4 < 4 := by omega
    have eP : (wdPoll (nI c) W tk kind).2 = wdLease W (w % 4) (w / 4) (nI (tk + 1)) (nI c + 10) := by
      unfold wdPoll; rw [hp]
    rw [eP, hp]
    have ew : bI (some w) = nI (16 * (w % 4) + w / 4) := rfl
    rw [ew]
    generalize hsg : w % 4 = s at *
    generalize hng : w / 4 = n at *
    have hn16 : n < 16 := by omega
    have nw : (nI (16 * s + n)).toNatClampNeg = 16 * s + n := zi_nat (by omega)
    have gw : ¬ nI (16 * s + n) < 0 := zi_neg (by omega)
    have lw : ¬ 64 ≤ 16 * s + n := by omega
    have dm := eq_false (zi_ne1 (by omega : 16 * s + n < 2147483648))
    have c64' := eq_true c64
    have hh : f_X11_poll_9 1 616 kind (nI (16 * s + n)) (nI 64) (pI h 1200 616 0) = some (nI (tk + 1), pE (pE (pE (pI (pI h 1200 616 0) 1202 616 (nI (tk + 1))) 660 (16 * s + n) 2) 663 (16 * s + n) (nI (tk + 1))) 662 (16 * s + n) (nI c + 10)) := by
      simp only [f_X11_poll_9, o10, o00, bh, isO, inR, ck_true, bind_some9, Nat.reduceLeDiff, Nat.reduceEqDiff, and_self, and_true, true_and, false_and, and_false, not_false_eq_true, not_true_eq_false, or_self, or_false, false_or, if_true, if_false, reduceIte, RF_o H, RF_1227 H, RO_635 H, RL_635 H, RF_1252 H, RO_660 H, RL_660 H, RF_1253 H, RO_661 H, RL_661 H, RF_1254 H, RO_662 H, RL_662 H, RF_1255 H, RO_663 H, RL_663 H, zR_pE, zT_pE, zL_pE, zn_pE, zE_pE, zI_pE, zR_pI, zT_pI, zL_pI, zn_pI, zE_pI, zI_pI, c64', dm, nw, gw, lw, etk, en, zi_one]
    rw [hh]
    have fa : frx (fun a j => a = 616 ∧ j = 1202) (pI h 1200 616 0) (pI (pI h 1200 616 0) 1202 616 (nI (tk + 1))) := frx_pI ⟨rfl, rfl⟩
    have hS : ∀ a j, (a = 616 ∧ j = 1202) → asd a j := fun a j z => Or.inl ⟨z.1, by omega⟩
    have Ra := R0.1.off fa hS (now1 := nI c) (by rw [zI_pI, if_neg (by omega)]; exact (R0.1.base (by omega)).1.2.2.1)
    have La := R0.2.1.off fa hS
    generalize hga : pI (pI h 1200 616 0) 1202 616 (nI (tk + 1)) = ga at *
    have ga2 : zI ga 1202 616 = nI (tk + 1) := by rw [← hga, zI_pI, if_pos ⟨rfl, rfl⟩]
    have ga0 : zI ga 1200 616 = 0 := by rw [← hga, zI_pI, if_neg (by omega)]; exact e0
    have fb : frx (lsS (16 * s + n)) ga (pE (pE (pE ga 660 (16 * s + n) 2) 663 (16 * s + n) (nI (tk + 1))) 662 (16 * s + n) (nI c + 10)) := ((frx_pE ⟨by omega, rfl⟩).trans (frx_pE ⟨by omega, rfl⟩)).trans (frx_pE ⟨by omega, rfl⟩)
    have v60 : zE (pE (pE (pE ga 660 (16 * s + n) 2) 663 (16 * s + n) (nI (tk + 1))) 662 (16 * s + n) (nI c + 10)) 660 (16 * s + n) = 2 := by
      rw [zE_pE, if_neg (by omega), zE_pE, if_neg (by omega), zE_pE, if_pos ⟨rfl, rfl⟩]
    have v63 : zE (pE (pE (pE ga 660 (16 * s + n) 2) 663 (16 * s + n) (nI (tk + 1))) 662 (16 * s + n) (nI c + 10)) 663 (16 * s + n) = nI (tk + 1) := by
      rw [zE_pE, if_neg (by omega), zE_pE, if_pos ⟨rfl, rfl⟩]
    have v62 : zE (pE (pE (pE ga 660 (16 * s + n) 2) 663 (16 * s + n) (nI (tk + 1))) 662 (16 * s + n) (nI c + 10)) 662 (16 * s + n) = nI c + 10 := by
      rw [zE_pE, if_pos ⟨rfl, rfl⟩]
    generalize pE (pE (pE ga 660 (16 * s + n) 2) 663 (16 * s + n) (nI (tk + 1))) 662 (16 * s + n) (nI c + 10) = gb at *
    have RL := Ra.lease hK hs x2 x1 x3 (fun z => by have := (zi_eq (a := tk + 1) (b := 0) (by omega) (by omega)).mp z; omega) fb v60 v63 v62
    have fbt : frx tpS ga gb := fb.mono (fun a j z => Or.inl (Or.inl ⟨s, hs, Or.inr (Or.inr (Or.inr (Or.inr (Or.inl ⟨by unfold lsS at z; omega, by unfold lsS at z; omega⟩))))⟩))
    refine ⟨gb, rfl, ?_, ⟨RL, La.tp fbt, WdT_new R.2.2.1 htk hs x1 _, ?_⟩, (f0.trans (fa.mono (fun a j z => Or.inr (Or.inr ⟨z.1, by omega⟩)))).trans fbt⟩
    · rw [fb.2.2.1 1200 (by unfold lsS; omega)]; exact ga0
    · rw [fb.2.2.1 1202 (by unfold lsS; omega)]; exact ga2
def lsP (W : Wld) (t : Int32) (w : Nat) : Bool := decide (w % 16 < shN (W (w / 16)) ∧ flK (shF (W (w / 16)) (w % 16)) = t ∧ t ≠ 0)
theorem w_leased_go {vs : Nat → List Prg} {now : Int32} {TX : List (Nat × Nat × Nat × Prg)} {K : Nat} {h : Hp} {W : Wld} (R : RW vs now TX K h W) (hK : K ≤ 1600) (t : Int32) : ∀ (m k fuel : Nat), k + m = 64 → m < fuel → f_X11_leased_2 fuel 616 t (nI k) h = some (match (List.range' k m).find? (lsP W t) with | none => -1 | some w => nI w, h)
  | m, k, 0, _, hf => absurd hf (Nat.not_lt_zero _)
  | 0, k, fuel + 1, hk, hf => by
    have c : (64 : Int32) ≤ nI k := (zi_le (a := 64) (by omega) (by omega)).mpr (by omega)
    unfold f_X11_leased_2
    rw [if_pos c]
    rfl
  | m + 1, k, fuel + 1, hk, hf => by
    obtain ⟨G, tb, bs⟩ := R.base hK
    have H := G.1
    have c : ¬ (64 : Int32) ≤ nI k := zi_le0 (a := 64) (by omega) (by omega) (by omega)
    have nk : (nI k).toNatClampNeg = k := zi_nat (by omega)
    have gk : ¬ nI k < 0 := zi_neg (by omega)
    have lk : ¬ 64 ≤ k := by omega
    have hs : k / 16 < 4 := by omega
    have ek : 16 * (k / 16) + k % 16 = k := by omega
    have ih := w_leased_go R hK t m (k + 1) fuel (by omega) (by omega)
    rw [List.range'_succ]
    obtain ⟨C, ⟨-, ⟨hI, -⟩, I, EE, sd, mn, fw, ob⟩, RC2, RC3⟩ := R (k / 16) hs
    have off : (zE h 660 k = 2 → zE h 663 k = t → lsP W t k = true) → (zE h 660 k ≠ 2 ∨ zE h 663 k ≠ t) → lsP W t k = false → f_X11_leased_2 (fuel + 1) 616 t (nI k) h = some (match (k :: List.range' (k + 1) m).find? (lsP W t) with | none => -1 | some w => nI w, h) := fun _ h1 h2 => by
      rw [List.find?_cons_of_neg (by rw [h2]; exact fun z => Bool.noConfusion z), ← ih]
      by_cases c2 : zE h 660 k = 2
      · have d := eq_true c2
        have d3 := eq_false (h1.resolve_left (fun z => z c2))
        simp only [f_X11_leased_2, f_X11_leased_30, o10, o00, bh, isO, inR, ck_true, bind_some9, Nat.reduceLeDiff, Nat.reduceEqDiff, and_self, and_true, true_and, false_and, and_false, not_false_eq_true, not_true_eq_false, or_self, or_false, false_or, if_true, if_false, reduceIte, RF_o H, RF_1252 H, RO_660 H, RL_660 H, RF_1255 H, RO_663 H, RL_663 H, zR_pE, zT_pE, zL_pE, zn_pE, zE_pE, zI_pE, zR_pI, zT_pI, zL_pI, zn_pI, zE_pI, zI_pI, c, nk, gk, lk, d, d3, zi_one]
      · have d := eq_false c2
        simp only [f_X11_leased_2, f_X11_leased_30, o10, o00, bh, isO, inR, ck_true, bind_some9, Nat.reduceLeDiff, Nat.reduceEqDiff, and_self, and_true, true_and, false_and, and_false, not_false_eq_true, not_true_eq_false, or_self, or_false, false_or, if_true, if_false, reduceIte, RF_o H, RF_1252 H, RO_660 H, RL_660 H, RF_1255 H, RO_663 H, RL_663 H, zR_pE, zT_pE, zL_pE, zn_pE, zE_pE, zI_pE, zR_pI, zT_pI, zL_pI, zn_pI, zE_pI, zI_pI, c, nk, gk, lk, d, zi_one]
    by_cases cn : k % 16 < shN (W (k / 16))
    · obtain ⟨y1, y2, y3⟩ := fw (k % 16) cn
      rw [ek] at y3
      have tks := hI.2.2.2 (k % 16) cn
      by_cases ck0 : flK (shF (W (k / 16)) (k % 16)) = 0
      · have n2 : zE h 660 k ≠ 2 := by
          rw [y3.1, if_pos ck0]
          split <;> decide
        exact off (fun z => absurd z n2) (Or.inl n2) (decide_eq_false (fun z => z.2.2 (by rw [← z.2.1]; exact ck0)))
      · have h0 := (tks.resolve_left ck0).1
        have e60 := y3.1
        rw [if_pos h0, if_neg ck0] at e60
        have e63 := ((y3.2 h0).2 ck0).1
        by_cases ct : flK (shF (W (k / 16)) (k % 16)) = t
        · have yes : lsP W t k = true := decide_eq_true ⟨cn, ct, by rw [← ct]; exact ck0⟩
          rw [List.find?_cons_of_pos yes]
          have d3 := eq_true ct
          have d := eq_true e60
          simp only [f_X11_leased_2, o10, o00, bh, isO, inR, ck_true, bind_some9, Nat.reduceLeDiff, Nat.reduceEqDiff, and_self, and_true, true_and, false_and, and_false, not_false_eq_true, not_true_eq_false, or_self, or_false, false_or, if_true, if_false, reduceIte, RF_o H, RF_1252 H, RO_660 H, RL_660 H, RF_1255 H, RO_663 H, RL_663 H, zR_pE, zT_pE, zL_pE, zn_pE, zE_pE, zI_pE, zR_pI, zT_pI, zL_pI, zn_pI, zE_pI, zI_pI, c, nk, gk, lk, d, e63, d3]
        · exact off (fun _ z => absurd (e63.symm.trans z) ct) (Or.inr (fun z => ct (e63.symm.trans z))) (decide_eq_false (fun z => ct z.2.1))
    · have n2 : zE h 660 k ≠ 2 := by
        have := mn.2 (k % 16) (by omega) (by omega)
        rw [ek] at this
        rw [this]; decide
      exact off (fun z => absurd z n2) (Or.inl n2) (decide_eq_false (fun z => cn z.1))
theorem lsd_some {W : Wld} {t : Int32} {x : Nat} (h : lsd W t = some x) : x < 64 ∧ x / 4 < shN (W (x % 4)) ∧ flK (shF (W (x % 4)) (x / 4)) = t ∧ 0 < t := by
  unfold lsd at h
  split at h
  · cases h
  · next c =>
    have q := List.find?_some h
    have q1 := List.mem_range.mp (List.mem_of_find?_eq_some h)
    have q := Bool.and_eq_true_iff.mp q
    exact ⟨q1, of_decide_eq_true q.1, of_decide_eq_true q.2, Int32.not_le.mp c⟩
theorem lsd_none {W : Wld} {t : Int32} (h : lsd W t = none) : t ≤ 0 ∨ ∀ s n, s < 4 → n < 16 → n < shN (W s) → flK (shF (W s) n) ≠ t := by
  unfold lsd at h
  split at h
  · next c => exact Or.inl c
  · refine Or.inr (fun s n hs hn hN z => ?_)
    rw [List.find?_eq_none] at h
    refine h (s + 4 * n) (List.mem_range.mpr (by omega)) ?_
    have e1 : (s + 4 * n) % 4 = s := by omega
    have e2 : (s + 4 * n) / 4 = n := by omega
    rw [e1, e2, decide_eq_true hN, decide_eq_true z]
    rfl
theorem w_leased {vs : Nat → List Prg} {c : Nat} {TX : List (Nat × Nat × Nat × Prg)} {K tk : Nat} {h : Hp} {W : Wld} (hK : K ≤ 1600) (htk : tk < 1000000) (R : RT vs c TX K tk h W) (t : Int32) : (lsd W t = none → f_X11_leased 616 t h = some (-1, h)) ∧ (∀ x, lsd W t = some x → f_X11_leased 616 t h = some (nI (16 * (x % 4) + x / 4), h) ∧ x < 64 ∧ x / 4 < shN (W (x % 4)) ∧ flK (shF (W (x % 4)) (x / 4)) = t ∧ t ≠ 0 ∧ wkP (flW (shF (W (x % 4)) (x / 4))) = 0 ∧ shL (W (x % 4)) ≠ -1) := by
  have e1 := w_leased_go R.1 hK t 64 0 fz (by omega) (fz_big (by omega))
  have e2 : f_X11_leased 616 t h = some (match (List.range' 0 64).find? (lsP W t) with | none => -1 | some w => nI w, h) := by
    rw [← e1]
    unfold f_X11_leased
    exact congrArg (fun z => f_X11_leased_2 fz 616 t z h) zi_zero
  obtain ⟨T1, T2⟩ := R.2.2.1
  have found : ∀ y, (List.range' 0 64).find? (lsP W t) = some y → y / 16 < 4 ∧ y % 16 < shN (W (y / 16)) ∧ flK (shF (W (y / 16)) (y % 16)) = t ∧ t ≠ 0 ∧ 0 < t := fun y hy => by
    have q9 : lsP W t y = true := List.find?_some hy
    have q := of_decide_eq_true q9
    have q1 := List.mem_range'.mp (List.mem_of_find?_eq_some hy)
    have hs : y / 16 < 4 := by omega
    refine ⟨hs, q.1, q.2.1, q.2.2, ?_⟩
    rcases T1 (y / 16) (y % 16) hs q.1 with z | ⟨j, j1, j2, j3⟩
    · exact absurd (q.2.1.symm.trans z) q.2.2
    · rw [← q.2.1, j3]
      exact (zi_lt (a := 0) (by omega) (by omega)).mpr (by omega)
  refine ⟨fun hn => ?_, fun x hx => ?_⟩
  · rw [e2]
    cases hf : (List.range' 0 64).find? (lsP W t) with
    | none => rfl
    | some y =>
      obtain ⟨y1, y2, y3, y4, y5⟩ := found y hf
      rcases lsd_none hn with z | z
      · exact absurd y5 (Int32.not_lt.mpr z)
      · exact absurd y3 (z (y / 16) (y % 16) y1 (Nat.mod_lt _ (by decide)) y2)
  · obtain ⟨x1, x2, x3, x4⟩ := lsd_some hx
    have hs : x % 4 < 4 := by omega
    have t0 : t ≠ 0 := pos_ne x4
    have b3 := ((R.1.base hK).2.2 (x % 4) hs).2.2.1
    obtain ⟨C, ⟨-, ⟨hI, -⟩, -⟩, -⟩ := R.1 (x % 4) hs
    have tks := (hI.2.2.2 (x / 4) x2).resolve_left (by rw [x3]; exact t0)
    refine ⟨?_, x1, x2, x3, t0, tks.1, tks.2⟩
    rw [e2]
    cases hf : (List.range' 0 64).find? (lsP W t) with
    | none =>
      rw [List.find?_eq_none] at hf
      refine absurd ?_ (hf (16 * (x % 4) + x / 4) (by rw [List.mem_range']; exact ⟨16 * (x % 4) + x / 4, by omega, by omega⟩))
      have e1 : (16 * (x % 4) + x / 4) / 16 = x % 4 := by omega
      have e3 : (16 * (x % 4) + x / 4) % 16 = x / 4 := by omega
      refine decide_eq_true ?_
      rw [e1, e3]
      exact ⟨x2, x3, t0⟩
    | some y =>
      obtain ⟨y1, y2, y3, y4, y5⟩ := found y hf
      obtain ⟨u1, u2⟩ := T2 _ _ _ _ y1 hs y2 x2 (y3.trans x3.symm) (by rw [y3]; exact t0)
      have : y = 16 * (x % 4) + x / 4 := by omega
      rw [this]
theorem WdT_again {tk : Nat} {W : Wld} (T : WdT tk W) {s n : Nat} {k u : Int32} (hk : flK (shF (W s) n) = k) : WdT tk (wdLease W s n k u) := by
  have eN : ∀ a, shN (wdLease W s n k u a) = shN (W a) := fun a => by
    unfold wdLease
    by_cases c : a = s
    · rw [show upf W s _ a = _ from if_pos c, c]; rfl
    · rw [show upf W s _ a = W a from if_neg c]
  refine WdT_le T (fun a ha m hm => Or.inr ⟨by rw [eN] at hm; exact hm, ?_⟩)
  unfold wdLease
  by_cases c : a = s
  · rw [show upf W s _ a = _ from if_pos c, c]
    show flK (upf (shF (W s)) n _ m) = _
    by_cases d : m = n
    · rw [show upf (shF (W s)) n _ m = _ from if_pos d, d, hk]; rfl
    · rw [show upf (shF (W s)) n _ m = shF (W s) m from if_neg d]
  · rw [show upf W s _ a = W a from if_neg c]
theorem w_beat {vs : Nat → List Prg} {c : Nat} {TX : List (Nat × Nat × Nat × Prg)} {K tk : Nat} {h : Hp} {W : Wld} (hK : K + 1 ≤ 1600) (htk : tk < 1000000) (R : RT vs c TX K tk h W) (t : Int32) : aftB vs c TX (K + 1) tk h (wdBeat (nI c) W t) (f_X11_beat 616 t h) := by
  obtain ⟨R0, e0, f0⟩ := R.th (by omega) 0
  obtain ⟨G, tb, bs⟩ := R.1.base (by omega)
  have H := G.1
  have en := G.2.2.1
  obtain ⟨l1, l2⟩ := w_leased (by omega) htk R0 t
  unfold wdBeat
  cases hx : lsd W t with
  | none =>
    have el := l1 hx
    have key : ∀ M1 : Int32, M1 = -1 → f_X11_leased 616 t (pI h 1200 616 0) = some (M1, pI h 1200 616 0) → f_X11_beat 616 t h = some (0, pI h 1200 616 0) := fun M1 hm1 el => by
      have dm := eq_true hm1
      simp only [f_X11_beat, o10, o00, bh, isO, inR, ck_true, bind_some9, Nat.reduceLeDiff, Nat.reduceEqDiff, and_self, and_true, true_and, false_and, and_false, not_false_eq_true, not_true_eq_false, or_self, or_false, false_or, if_true, if_false, reduceIte, RF_o H, RF_1254 H, RO_662 H, RL_662 H, zR_pE, zT_pE, zL_pE, zn_pE, zE_pE, zI_pE, zR_pI, zT_pI, zL_pI, zn_pI, zE_pI, zI_pI, el, dm]
    rw [key _ rfl el]
    exact aftB_f ⟨_, rfl, e0, R0.moreK (Nat.le_succ K) hK, f0⟩
  | some x =>
    obtain ⟨el, x1, x2, x3, x4, x5, x6⟩ := l2 x hx
    have hs : x % 4 < 4 := by omega
    simp only []
    generalize hsg : x % 4 = s at *
    generalize hng : x / 4 = n at *
    have hn16 : n < 16 := by omega
    have nw : (nI (16 * s + n)).toNatClampNeg = 16 * s + n := zi_nat (by omega)
    have gw : ¬ nI (16 * s + n) < 0 := zi_neg (by omega)
    have lw : ¬ 64 ≤ 16 * s + n := by omega
    have dm := eq_false (zi_ne1 (by omega : 16 * s + n < 2147483648))
    have hh : f_X11_beat 616 t h = some (1, pE (pI h 1200 616 0) 662 (16 * s + n) (nI c + 10)) := by
      simp only [f_X11_beat, o10, o00, bh, isO, inR, ck_true, bind_some9, Nat.reduceLeDiff, Nat.reduceEqDiff, and_self, and_true, true_and, false_and, and_false, not_false_eq_true, not_true_eq_false, or_self, or_false, false_or, if_true, if_false, reduceIte, RF_o H, RF_1254 H, RO_662 H, RL_662 H, zR_pE, zT_pE, zL_pE, zn_pE, zE_pE, zI_pE, zR_pI, zT_pI, zL_pI, zn_pI, zE_pI, zI_pI, el, dm, nw, gw, lw, en]
    rw [hh]
    have fb : frx (lsS (16 * s + n)) (pI h 1200 616 0) (pE (pI h 1200 616 0) 662 (16 * s + n) (nI c + 10)) := frx_pE ⟨by omega, rfl⟩
    obtain ⟨E, ev, rf, tk9, -⟩ := R0.1.row hs x2
    have e60 := tk9.1
    rw [if_pos x5, if_neg (by rw [x3]; exact x4)] at e60
    have e63 := ((tk9.2 x5).2 (by rw [x3]; exact x4)).1
    rw [x3] at e63
    have RL := R0.1.lease hK hs x6 x2 x5 x4 (u := nI c + 10) fb (by rw [zE_pE, if_neg (by omega)]; exact e60) (by rw [zE_pE, if_neg (by omega)]; exact e63) (by rw [zE_pE, if_pos ⟨rfl, rfl⟩])
    have fbt : frx tpS (pI h 1200 616 0) (pE (pI h 1200 616 0) 662 (16 * s + n) (nI c + 10)) := fb.mono (fun a j z => Or.inl (Or.inl ⟨s, hs, Or.inr (Or.inr (Or.inr (Or.inr (Or.inl ⟨by unfold lsS at z; omega, by unfold lsS at z; omega⟩))))⟩))
    refine aftB_t ⟨_, rfl, ?_, ⟨RL, R0.2.1.tp fbt, WdT_again R0.2.2.1 x3, ?_⟩, f0.trans fbt⟩
    · rw [fb.2.2.1 1200 (by unfold lsS; omega)]; exact e0
    · rw [fb.2.2.1 1202 (by unfold lsS; omega)]; exact R0.2.2.2
theorem w_finish {vs : Nat → List Prg} {c : Nat} {TX : List (Nat × Nat × Nat × Prg)} {K tk : Nat} {h : Hp} {W : Wld} (hK : K ≤ 1600) (htk : tk < 1000000) (R : RT vs c TX K tk h W) (t v : Int32) : aftB vs c TX K tk h (wdFinish vs (nI c) W t v) (f_X11_finish 616 t v h) := by
  obtain ⟨R0, e0, f0⟩ := R.th (by omega) 0
  obtain ⟨G, tb, bs⟩ := R.1.base (by omega)
  have H := G.1
  obtain ⟨l1, l2⟩ := w_leased (by omega) htk R0 t
  unfold wdFinish
  cases hx : lsd W t with
  | none =>
    have el := l1 hx
    have key : ∀ M1 : Int32, M1 = -1 → f_X11_leased 616 t (pI h 1200 616 0) = some (M1, pI h 1200 616 0) → f_X11_finish 616 t v h = some (0, pI h 1200 616 0) := fun M1 hm1 el => by
      have dm := eq_true hm1
      simp only [f_X11_finish, o10, o00, bh, isO, inR, ck_true, bind_some9, Nat.reduceLeDiff, Nat.reduceEqDiff, and_self, and_true, true_and, false_and, and_false, not_false_eq_true, not_true_eq_false, or_self, or_false, false_or, if_true, if_false, reduceIte, RF_o H, zR_pE, zT_pE, zL_pE, zn_pE, zE_pE, zI_pE, zR_pI, zT_pI, zL_pI, zn_pI, zE_pI, zI_pI, el, dm]
    rw [key _ rfl el]
    exact aftB_f ⟨_, rfl, e0, R0, f0⟩
  | some x =>
    obtain ⟨el, x1, x2, x3, x4, x5, x6⟩ := l2 x hx
    have hs : x % 4 < 4 := by omega
    simp only []
    generalize hsg : x % 4 = s at *
    generalize hng : x / 4 = n at *
    have dm := eq_false (zi_ne1 (by omega : 16 * s + n < 2147483648))
    obtain ⟨C, RC, RC2, RC3⟩ := R0.1 s hs
    have ok := result_ok (a := v) (b := 0) (o := 0) (P := flP (shF (W s) n)) (es := flE (shF (W s) n)) (by rw [← RC.2.1.1.rp x2]; exact x5)
    obtain ⟨h1, a1, a2, a3⟩ := w_comes_W R0.1 hK hs x6 x2 ok
    have a1 : f_X11_comes 616 (nI (16 * s + n)) 2 v 0 0 (pI h 1200 616 0) = some (if (shBring (nI c) (W s) n 2 v 0 0).1 = true then 1 else 0, h1) := a1
    obtain ⟨E9, -, gr9⟩ := bring_S (nI c) ⟨RC.2.1.1, RC2, RC3⟩ x6 x2 ok
    have fin := aft_act (r := if (shBring (nI c) (W s) n 2 v 0 0).1 = true then 1 else 0) hK R0 e0 f0 a2 a3 (WdT_act R0.2.2.1 gr9.2.2.2.2.2.2)
    cases cb : (shBring (nI c) (W s) n 2 v 0 0).1 with
    | true =>
      rw [cb, if_pos rfl] at a1 fin
      simp only [f_X11_finish, o10, o00, bh, isO, inR, ck_true, bind_some9, Nat.reduceLeDiff, Nat.reduceEqDiff, and_self, and_true, true_and, false_and, and_false, not_false_eq_true, not_true_eq_false, or_self, or_false, false_or, if_true, if_false, reduceIte, RF_o H, zR_pE, zT_pE, zL_pE, zn_pE, zE_pE, zI_pE, zR_pI, zT_pI, zL_pI, zn_pI, zE_pI, zI_pI, el, dm, a1]
      exact aftB_t fin
    | false =>
      rw [cb, if_neg Bool.noConfusion] at a1 fin
      simp only [f_X11_finish, o10, o00, bh, isO, inR, ck_true, bind_some9, Nat.reduceLeDiff, Nat.reduceEqDiff, and_self, and_true, true_and, false_and, and_false, not_false_eq_true, not_true_eq_false, or_self, or_false, false_or, if_true, if_false, reduceIte, RF_o H, zR_pE, zT_pE, zL_pE, zn_pE, zE_pE, zI_pE, zR_pI, zT_pI, zL_pI, zn_pI, zE_pI, zI_pI, el, dm, a1]
      exact aftB_f fin
theorem w_fail {vs : Nat → List Prg} {c : Nat} {TX : List (Nat × Nat × Nat × Prg)} {K tk : Nat} {h : Hp} {W : Wld} (hK : K ≤ 1600) (htk : tk < 1000000) (R : RT vs c TX K tk h W) (t : Int32) : aftB vs c TX K tk h (wdFail vs (nI c) W t) (f_X11_fail 616 t h) := by
  obtain ⟨R0, e0, f0⟩ := R.th (by omega) 0
  obtain ⟨G, tb, bs⟩ := R.1.base (by omega)
  have H := G.1
  obtain ⟨l1, l2⟩ := w_leased (by omega) htk R0 t
  unfold wdFail
  cases hx : lsd W t with
  | none =>
    have el := l1 hx
    have key : ∀ M1 : Int32, M1 = -1 → f_X11_leased 616 t (pI h 1200 616 0) = some (M1, pI h 1200 616 0) → f_X11_fail 616 t h = some (0, pI h 1200 616 0) := fun M1 hm1 el => by
      have dm := eq_true hm1
      simp only [f_X11_fail, o10, o00, bh, isO, inR, ck_true, bind_some9, Nat.reduceLeDiff, Nat.reduceEqDiff, and_self, and_true, true_and, false_and, and_false, not_false_eq_true, not_true_eq_false, or_self, or_false, false_or, if_true, if_false, reduceIte, RF_o H, zR_pE, zT_pE, zL_pE, zn_pE, zE_pE, zI_pE, zR_pI, zT_pI, zL_pI, zn_pI, zE_pI, zI_pI, el, dm]
    rw [key _ rfl el]
    exact aftB_f ⟨_, rfl, e0, R0, f0⟩
  | some x =>
    obtain ⟨el, x1, x2, x3, x4, x5, x6⟩ := l2 x hx
    have hs : x % 4 < 4 := by omega
    simp only []
    generalize hsg : x % 4 = s at *
    generalize hng : x / 4 = n at *
    have dm := eq_false (zi_ne1 (by omega : 16 * s + n < 2147483648))
    obtain ⟨C, RC, RC2, RC3⟩ := R0.1 s hs
    obtain ⟨h1, a1, a2, a3⟩ := w_fails_W R0.1 hK hs x6 x2 x5 (by rw [x3]; exact x4)
    have a1 : f_X11_fails 616 (nI (16 * s + n)) (pI h 1200 616 0) = some (if (shFail (nI c) (W s) n).1 = true then 1 else 0, h1) := a1
    obtain ⟨E9, -, gr9⟩ := fail_S (nI c) ⟨RC.2.1.1, RC2, RC3⟩ x6 x2 x5 (by rw [x3]; exact x4)
    have fin := aft_act (r := if (shFail (nI c) (W s) n).1 = true then 1 else 0) hK R0 e0 f0 a2 a3 (WdT_act R0.2.2.1 gr9.2.2.2.2.2.2)
    cases cb : (shFail (nI c) (W s) n).1 with
    | true =>
      rw [cb, if_pos rfl] at a1 fin
      simp only [f_X11_fail, o10, o00, bh, isO, inR, ck_true, bind_some9, Nat.reduceLeDiff, Nat.reduceEqDiff, and_self, and_true, true_and, false_and, and_false, not_false_eq_true, not_true_eq_false, or_self, or_false, false_or, if_true, if_false, reduceIte, RF_o H, zR_pE, zT_pE, zL_pE, zn_pE, zE_pE, zI_pE, zR_pI, zT_pI, zL_pI, zn_pI, zE_pI, zI_pI, el, dm, a1]
      exact aftB_t fin
    | false =>
      rw [cb, if_neg Bool.noConfusion] at a1 fin
      simp only [f_X11_fail, o10, o00, bh, isO, inR, ck_true, bind_some9, Nat.reduceLeDiff, Nat.reduceEqDiff, and_self, and_true, true_and, false_and, and_false, not_false_eq_true, not_true_eq_false, or_self, or_false, false_or, if_true, if_false, reduceIte, RF_o H, zR_pE, zT_pE, zL_pE, zn_pE, zE_pE, zI_pE, zR_pI, zT_pI, zL_pI, zn_pI, zE_pI, zI_pI, el, dm, a1]
      exact aftB_f fin
theorem w_task {vs : Nat → List Prg} {c : Nat} {TX : List (Nat × Nat × Nat × Prg)} {K tk : Nat} {h : Hp} {W : Wld} (hK : K ≤ 1600) (htk : tk < 1000000) (R : RT vs c TX K tk h W) (t q : Int32) : aft vs c TX K tk h W 0 (wdTask W t q) (f_X11_task 616 t q h) := by
  obtain ⟨R0, e0, f0⟩ := R.th (by omega) 0
  obtain ⟨G, tb, bs⟩ := R.1.base (by omega)
  have H := G.1
  have stay : ∀ r : Int32, aft vs c TX K tk h W 0 r (some (r, pI h 1200 616 0)) := fun r => ⟨_, rfl, e0, R0, f0⟩
  obtain ⟨l1, l2⟩ := w_leased (by omega) htk R0 t
  unfold wdTask
  cases hx : lsd W t with
  | none =>
    have el := l1 hx
    have key : ∀ M1 : Int32, M1 = -1 → f_X11_leased 616 t (pI h 1200 616 0) = some (M1, pI h 1200 616 0) → f_X11_task 616 t q h = some (-1, pI h 1200 616 0) := fun M1 hm1 el => by
      have dm := eq_true hm1
      simp only [f_X11_task, o10, o00, bh, isO, inR, ck_true, bind_some9, Nat.reduceLeDiff, Nat.reduceEqDiff, and_self, and_true, true_and, false_and, and_false, not_false_eq_true, not_true_eq_false, or_self, or_false, false_or, if_true, if_false, reduceIte, RF_o H, RF_1228 H, RO_636 H, RL_636 H, RF_1254 H, RO_662 H, RL_662 H, RF_1256 H, RO_664 H, RL_664 H, zR_pE, zT_pE, zL_pE, zn_pE, zE_pE, zI_pE, zR_pI, zT_pI, zL_pI, zn_pI, zE_pI, zI_pI, el, dm]
    rw [key _ rfl el]
    exact stay _
  | some x =>
    obtain ⟨el, x1, x2, x3, x4, x5, x6⟩ := l2 x hx
    have hs : x % 4 < 4 := by omega
    have exx : x = x % 4 + 4 * (x / 4) := by omega
    simp only []
    obtain ⟨E, ev, rf, tk9, -⟩ := R.1.row hs x2
    obtain ⟨E0, ev0, -⟩ := R0.1.row hs x2
    obtain ⟨hw9, elw, -⟩ := R.1.task hs x2 x5
    have e64 := (tk9.2 x5).1.2
    have e62 := ((tk9.2 x5).2 (by rw [x3]; exact x4)).2
    obtain ⟨i, i1, i2, -, i3⟩ := w_workOf (R0.1.base hK).1.1 (by omega : 16 * (x % 4) + x / 4 < 64) (by omega : totQ W ≤ 60000) ev0 hw9
    rw [zE_pI, elw] at i3
    have i3 : zE h 636 i = (flT (shF (W (x % 4)) (x / 4))).2.1 := i3
    have ni : (nI i).toNatClampNeg = i := zi_nat (by omega)
    have gi : ¬ nI i < 0 := zi_neg (by omega)
    have li : ¬ 60000 ≤ i := by omega
    generalize hsg : x % 4 = s at *
    generalize hng : x / 4 = n at *
    have hn16 : n < 16 := by omega
    have nw : (nI (16 * s + n)).toNatClampNeg = 16 * s + n := zi_nat (by omega)
    have gw : ¬ nI (16 * s + n) < 0 := zi_neg (by omega)
    have lw : ¬ 64 ≤ 16 * s + n := by omega
    have dm := eq_false (zi_ne1 (by omega : 16 * s + n < 2147483648))
    have eN := w_numberOf (h := pI h 1200 616 0) hs hn16
    by_cases q0 : q = 0
    · rw [if_pos q0]
      have d0 := eq_true q0
      simp only [f_X11_task, o10, o00, bh, isO, inR, ck_true, bind_some9, Nat.reduceLeDiff, Nat.reduceEqDiff, and_self, and_true, true_and, false_and, and_false, not_false_eq_true, not_true_eq_false, or_self, or_false, false_or, if_true, if_false, reduceIte, RF_o H, RF_1228 H, RO_636 H, RL_636 H, RF_1254 H, RO_662 H, RL_662 H, RF_1256 H, RO_664 H, RL_664 H, zR_pE, zT_pE, zL_pE, zn_pE, zE_pE, zI_pE, zR_pI, zT_pI, zL_pI, zn_pI, zE_pI, zI_pI, el, dm, d0, eN]
      rw [exx]
      exact stay _
    · rw [if_neg q0]
      have d0 := eq_false q0
      by_cases q1 : q = 1
      · rw [if_pos q1]
        have d1 := eq_true q1
        simp only [f_X11_task, o10, o00, bh, isO, inR, ck_true, bind_some9, Nat.reduceLeDiff, Nat.reduceEqDiff, and_self, and_true, true_and, false_and, and_false, not_false_eq_true, not_true_eq_false, or_self, or_false, false_or, if_true, if_false, reduceIte, RF_o H, RF_1228 H, RO_636 H, RL_636 H, RF_1254 H, RO_662 H, RL_662 H, RF_1256 H, RO_664 H, RL_664 H, zR_pE, zT_pE, zL_pE, zn_pE, zE_pE, zI_pE, zR_pI, zT_pI, zL_pI, zn_pI, zE_pI, zI_pI, el, dm, d0, d1, i1, ni, gi, li, i3]
        exact stay _
      · rw [if_neg q1]
        have d1 := eq_false q1
        by_cases q2 : q = 2
        · rw [if_pos q2]
          have d2 := eq_true q2
          simp only [f_X11_task, o10, o00, bh, isO, inR, ck_true, bind_some9, Nat.reduceLeDiff, Nat.reduceEqDiff, and_self, and_true, true_and, false_and, and_false, not_false_eq_true, not_true_eq_false, or_self, or_false, false_or, if_true, if_false, reduceIte, RF_o H, RF_1228 H, RO_636 H, RL_636 H, RF_1254 H, RO_662 H, RL_662 H, RF_1256 H, RO_664 H, RL_664 H, zR_pE, zT_pE, zL_pE, zn_pE, zE_pE, zI_pE, zR_pI, zT_pI, zL_pI, zn_pI, zE_pI, zI_pI, el, dm, d0, d1, d2, nw, gw, lw, e64]
          exact stay _
        · rw [if_neg q2]
          have d2 := eq_false q2
          by_cases q3 : q = 3
          · rw [if_pos q3]
            have d3 := eq_true q3
            simp only [f_X11_task, o10, o00, bh, isO, inR, ck_true, bind_some9, Nat.reduceLeDiff, Nat.reduceEqDiff, and_self, and_true, true_and, false_and, and_false, not_false_eq_true, not_true_eq_false, or_self, or_false, false_or, if_true, if_false, reduceIte, RF_o H, RF_1228 H, RO_636 H, RL_636 H, RF_1254 H, RO_662 H, RL_662 H, RF_1256 H, RO_664 H, RL_664 H, zR_pE, zT_pE, zL_pE, zn_pE, zE_pE, zI_pE, zR_pI, zT_pI, zL_pI, zn_pI, zE_pI, zI_pI, el, dm, d0, d1, d2, d3, nw, gw, lw, e62]
            exact stay _
          · rw [if_neg q3]
            have d3 := eq_false q3
            simp only [f_X11_task, o10, o00, bh, isO, inR, ck_true, bind_some9, Nat.reduceLeDiff, Nat.reduceEqDiff, and_self, and_true, true_and, false_and, and_false, not_false_eq_true, not_true_eq_false, or_self, or_false, false_or, if_true, if_false, reduceIte, RF_o H, RF_1228 H, RO_636 H, RL_636 H, RF_1254 H, RO_662 H, RL_662 H, RF_1256 H, RO_664 H, RL_664 H, zR_pE, zT_pE, zL_pE, zn_pE, zE_pE, zI_pE, zR_pI, zT_pI, zL_pI, zn_pI, zE_pI, zI_pI, el, dm, d0, d1, d2, d3]
            exact stay _
/-! WHAT THE REFERENCE SHOWS -/
theorem w_workflow {vs : Nat → List Prg} {c : Nat} {TX : List (Nat × Nat × Nat × Prg)} {K tk : Nat} {h : Hp} {W : Wld} (hK : K ≤ 1600) (R : RT vs c TX K tk h W) (w q : Int32) : aft vs c TX K tk h W 0 (wdFlow W w q) (f_X11_workflow 616 w q h) := by
  obtain ⟨R0, e0, f0⟩ := R.th (by omega) 0
  obtain ⟨G, tb, bs⟩ := R.1.base (by omega)
  have H := G.1
  have stay : ∀ r : Int32, aft vs c TX K tk h W 0 r (some (r, pI h 1200 616 0)) := fun r => ⟨_, rfl, e0, R0, f0⟩
  have eF := w_isFlow R0.1 hK w
  unfold wdFlow
  cases ef : flw W w with
  | none =>
    rw [ef] at eF
    have eF : f_X11_isFlow 616 w (pI h 1200 616 0) = some (0, pI h 1200 616 0) := eF
    simp only [f_X11_workflow, o10, o00, bh, isO, inR, ck_true, bind_some9, Nat.reduceLeDiff, Nat.reduceEqDiff, and_self, and_true, true_and, false_and, and_false, not_false_eq_true, not_true_eq_false, or_self, or_false, false_or, if_true, if_false, reduceIte, RF_o H, RF_1227 H, RO_635 H, RL_635 H, RF_1241 H, RO_649 H, RL_649 H, RF_1243 H, RO_651 H, RL_651 H, RF_1244 H, RO_652 H, RL_652 H, RF_1246 H, RO_654 H, RL_654 H, RF_1247 H, RO_655 H, RL_655 H, zR_pE, zT_pE, zL_pE, zn_pE, zE_pE, zI_pE, zR_pI, zT_pI, zL_pI, zn_pI, zE_pI, zI_pI, eF]
    exact stay _
  | some sn =>
    obtain ⟨s, n⟩ := sn
    rw [ef] at eF
    have eF : f_X11_isFlow 616 w (pI h 1200 616 0) = some (1, pI h 1200 616 0) := eF
    obtain ⟨hs, hn, hn16, ew, ep⟩ := flw_64 R0.1 hK ef
    obtain ⟨E, ev, rf, tk9, l1, l5, -⟩ := R.1.row hs hn
    obtain ⟨E0, ev0, -⟩ := R0.1.row hs hn
    have H0 := (R0.1.base hK).1.1
    have nw : (nI (16 * s + n)).toNatClampNeg = 16 * s + n := zi_nat (by omega)
    have gw : ¬ nI (16 * s + n) < 0 := zi_neg (by omega)
    have lw : ¬ 64 ≤ 16 * s + n := by omega
    obtain ⟨⟨e51, p5⟩, -, e52, -, e54, e55, -⟩ := rf
    rw [← l5] at e51 p5 e52 e54 e55
    simp only []
    by_cases q0 : q = 0
    · rw [if_pos q0]
      have d0 := eq_true q0
      simp only [f_X11_workflow, o10, o00, bh, isO, inR, ck_true, bind_some9, Nat.reduceLeDiff, Nat.reduceEqDiff, and_self, and_true, true_and, false_and, and_false, not_false_eq_true, not_true_eq_false, or_self, or_false, false_or, if_true, if_false, reduceIte, RF_o H, RF_1227 H, RO_635 H, RL_635 H, RF_1241 H, RO_649 H, RL_649 H, RF_1243 H, RO_651 H, RL_651 H, RF_1244 H, RO_652 H, RL_652 H, RF_1246 H, RO_654 H, RL_654 H, RF_1247 H, RO_655 H, RL_655 H, zR_pE, zT_pE, zL_pE, zn_pE, zE_pE, zI_pE, zR_pI, zT_pI, zL_pI, zn_pI, zE_pI, zI_pI, eF, ep, d0, nw, gw, lw, e51]
      exact stay _
    · rw [if_neg q0]
      have d0 := eq_false q0
      by_cases q1 : q = 1
      · rw [if_pos q1]
        have d1 := eq_true q1
        have q4 : nI (wkP (flW (shF (W s) n))) = (4 : Int32) ↔ wkP (flW (shF (W s) n)) = 4 := zi_eq (b := 4) (by omega) (by omega)
        by_cases c4 : wkP (flW (shF (W s) n)) = 4
        · have d4 := eq_true (q4.mpr c4)
          rw [if_pos c4]
          simp only [f_X11_workflow, o10, o00, bh, isO, inR, ck_true, bind_some9, Nat.reduceLeDiff, Nat.reduceEqDiff, and_self, and_true, true_and, false_and, and_false, not_false_eq_true, not_true_eq_false, or_self, or_false, false_or, if_true, if_false, reduceIte, RF_o H, RF_1227 H, RO_635 H, RL_635 H, RF_1241 H, RO_649 H, RL_649 H, RF_1243 H, RO_651 H, RL_651 H, RF_1244 H, RO_652 H, RL_652 H, RF_1246 H, RO_654 H, RL_654 H, RF_1247 H, RO_655 H, RL_655 H, zR_pE, zT_pE, zL_pE, zn_pE, zE_pE, zI_pE, zR_pI, zT_pI, zL_pI, zn_pI, zE_pI, zI_pI, eF, ep, d0, d1, nw, gw, lw, e51, d4, e52 c4]
          exact stay _
        · have d4 := eq_false (fun z => c4 (q4.mp z))
          rw [if_neg c4]
          simp only [f_X11_workflow, o10, o00, bh, isO, inR, ck_true, bind_some9, Nat.reduceLeDiff, Nat.reduceEqDiff, and_self, and_true, true_and, false_and, and_false, not_false_eq_true, not_true_eq_false, or_self, or_false, false_or, if_true, if_false, reduceIte, RF_o H, RF_1227 H, RO_635 H, RL_635 H, RF_1241 H, RO_649 H, RL_649 H, RF_1243 H, RO_651 H, RL_651 H, RF_1244 H, RO_652 H, RL_652 H, RF_1246 H, RO_654 H, RL_654 H, RF_1247 H, RO_655 H, RL_655 H, zR_pE, zT_pE, zL_pE, zn_pE, zE_pE, zI_pE, zR_pI, zT_pI, zL_pI, zn_pI, zE_pI, zI_pI, eF, ep, d0, d1, nw, gw, lw, e51, d4]
          exact stay _
      · rw [if_neg q1]
        have d1 := eq_false q1
        by_cases q2 : q = 2
        · rw [if_pos q2]
          have d2 := eq_true q2
          simp only [f_X11_workflow, o10, o00, bh, isO, inR, ck_true, bind_some9, Nat.reduceLeDiff, Nat.reduceEqDiff, and_self, and_true, true_and, false_and, and_false, not_false_eq_true, not_true_eq_false, or_self, or_false, false_or, if_true, if_false, reduceIte, RF_o H, RF_1227 H, RO_635 H, RL_635 H, RF_1241 H, RO_649 H, RL_649 H, RF_1243 H, RO_651 H, RL_651 H, RF_1244 H, RO_652 H, RL_652 H, RF_1246 H, RO_654 H, RL_654 H, RF_1247 H, RO_655 H, RL_655 H, zR_pE, zT_pE, zL_pE, zn_pE, zE_pE, zI_pE, zR_pI, zT_pI, zL_pI, zn_pI, zE_pI, zI_pI, eF, ep, d0, d1, d2, nw, gw, lw, ev.1]
          exact stay _
        · rw [if_neg q2]
          have d2 := eq_false q2
          by_cases q3 : q = 3
          · rw [if_pos q3]
            have d3 := eq_true q3
            obtain ⟨i, rn, rt, hi, hrn, hKk, hiE, hrec⟩ := ev.at l1
            have eE := w_event H0 (by omega : 16 * s + n < 64) (k := 0) (by omega) (by rw [zE_pI]; exact hiE)
            have eE : f_X11_event 616 (nI (16 * s + n)) 0 (pI h 1200 616 0) = some (nI i, pI h 1200 616 0) := eE
            have ni : (nI i).toNatClampNeg = i := zi_nat (by omega)
            have gi : ¬ nI i < 0 := zi_neg (by omega)
            have li : ¬ 60000 ≤ i := by omega
            have rA : zE h 635 i = (evAt (flE (shF (W s) n)) 0).2.1 := hrec.2.2.1
            simp only [f_X11_workflow, o10, o00, bh, isO, inR, ck_true, bind_some9, Nat.reduceLeDiff, Nat.reduceEqDiff, and_self, and_true, true_and, false_and, and_false, not_false_eq_true, not_true_eq_false, or_self, or_false, false_or, if_true, if_false, reduceIte, RF_o H, RF_1227 H, RO_635 H, RL_635 H, RF_1241 H, RO_649 H, RL_649 H, RF_1243 H, RO_651 H, RL_651 H, RF_1244 H, RO_652 H, RL_652 H, RF_1246 H, RO_654 H, RL_654 H, RF_1247 H, RO_655 H, RL_655 H, zR_pE, zT_pE, zL_pE, zn_pE, zE_pE, zI_pE, zR_pI, zT_pI, zL_pI, zn_pI, zE_pI, zI_pI, eF, ep, d0, d1, d2, d3, eE, ni, gi, li, rA]
            exact stay _
          · rw [if_neg q3]
            have d3 := eq_false q3
            by_cases q4 : q = 4
            · rw [if_pos q4]
              have d4 := eq_true q4
              simp only [f_X11_workflow, o10, o00, bh, isO, inR, ck_true, bind_some9, Nat.reduceLeDiff, Nat.reduceEqDiff, and_self, and_true, true_and, false_and, and_false, not_false_eq_true, not_true_eq_false, or_self, or_false, false_or, if_true, if_false, reduceIte, RF_o H, RF_1227 H, RO_635 H, RL_635 H, RF_1241 H, RO_649 H, RL_649 H, RF_1243 H, RO_651 H, RL_651 H, RF_1244 H, RO_652 H, RL_652 H, RF_1246 H, RO_654 H, RL_654 H, RF_1247 H, RO_655 H, RL_655 H, zR_pE, zT_pE, zL_pE, zn_pE, zE_pE, zI_pE, zR_pI, zT_pI, zL_pI, zn_pI, zE_pI, zI_pI, eF, ep, d0, d1, d2, d3, d4, nw, gw, lw, e54]
              exact stay _
            · rw [if_neg q4]
              have d4 := eq_false q4
              by_cases q5 : q = 5
              · rw [if_pos q5]
                have d5 := eq_true q5
                simp only [f_X11_workflow, o10, o00, bh, isO, inR, ck_true, bind_some9, Nat.reduceLeDiff, Nat.reduceEqDiff, and_self, and_true, true_and, false_and, and_false, not_false_eq_true, not_true_eq_false, or_self, or_false, false_or, if_true, if_false, reduceIte, RF_o H, RF_1227 H, RO_635 H, RL_635 H, RF_1241 H, RO_649 H, RL_649 H, RF_1243 H, RO_651 H, RL_651 H, RF_1244 H, RO_652 H, RL_652 H, RF_1246 H, RO_654 H, RL_654 H, RF_1247 H, RO_655 H, RL_655 H, zR_pE, zT_pE, zL_pE, zn_pE, zE_pE, zI_pE, zR_pI, zT_pI, zL_pI, zn_pI, zE_pI, zI_pI, eF, ep, d0, d1, d2, d3, d4, d5, nw, gw, lw, e55]
                exact stay _
              · rw [if_neg q5]
                have d5 := eq_false q5
                by_cases q6 : q = 6
                · rw [if_pos q6]
                  have d6 := eq_true q6
                  have ePa := w_parent H0 (by omega : 16 * s + n < 64) ev0 l1 (by omega)
                  simp only [f_X11_workflow, o10, o00, bh, isO, inR, ck_true, bind_some9, Nat.reduceLeDiff, Nat.reduceEqDiff, and_self, and_true, true_and, false_and, and_false, not_false_eq_true, not_true_eq_false, or_self, or_false, false_or, if_true, if_false, reduceIte, RF_o H, RF_1227 H, RO_635 H, RL_635 H, RF_1241 H, RO_649 H, RL_649 H, RF_1243 H, RO_651 H, RL_651 H, RF_1244 H, RO_652 H, RL_652 H, RF_1246 H, RO_654 H, RL_654 H, RF_1247 H, RO_655 H, RL_655 H, zR_pE, zT_pE, zL_pE, zn_pE, zE_pE, zI_pE, zR_pI, zT_pI, zL_pI, zn_pI, zE_pI, zI_pI, eF, ep, d0, d1, d2, d3, d4, d5, d6, ePa]
                  exact stay _
                · rw [if_neg q6]
                  have d6 := eq_false q6
                  simp only [f_X11_workflow, o10, o00, bh, isO, inR, ck_true, bind_some9, Nat.reduceLeDiff, Nat.reduceEqDiff, and_self, and_true, true_and, false_and, and_false, not_false_eq_true, not_true_eq_false, or_self, or_false, false_or, if_true, if_false, reduceIte, RF_o H, RF_1227 H, RO_635 H, RL_635 H, RF_1241 H, RO_649 H, RL_649 H, RF_1243 H, RO_651 H, RL_651 H, RF_1244 H, RO_652 H, RL_652 H, RF_1246 H, RO_654 H, RL_654 H, RF_1247 H, RO_655 H, RL_655 H, zR_pE, zT_pE, zL_pE, zn_pE, zE_pE, zI_pE, zR_pI, zT_pI, zL_pI, zn_pI, zE_pI, zI_pI, eF, ep, d0, d1, d2, d3, d4, d5, d6]
                  exact stay _
theorem w_event_ {vs : Nat → List Prg} {c : Nat} {TX : List (Nat × Nat × Nat × Prg)} {K tk : Nat} {h : Hp} {W : Wld} (hK : K ≤ 1600) (R : RT vs c TX K tk h W) (w k q : Int32) : aft vs c TX K tk h W (wdEvent W w k q).1 (wdEvent W w k q).2 (f_X11_event_ 616 w k q h) := by
  obtain ⟨G, tb, bs⟩ := R.1.base (by omega)
  have H := G.1
  have stay : ∀ t r : Int32, aft vs c TX K tk h W t r (some (r, pI h 1200 616 t)) := fun t r => by
    obtain ⟨R0, e0, f0⟩ := R.th hK t
    exact ⟨_, rfl, e0, R0, f0⟩
  have eF := w_isFlow R.1 hK w
  unfold wdEvent
  cases ef : flw W w with
  | none =>
    rw [ef] at eF
    have eF : f_X11_isFlow 616 w h = some (0, h) := eF
    simp only [f_X11_event_, f_X11_event__37, f_X11_event__54, o10, o00, bh, isO, inR, ck_true, bind_some9, Nat.reduceLeDiff, Nat.reduceEqDiff, and_self, and_true, true_and, false_and, and_false, not_false_eq_true, not_true_eq_false, or_self, or_false, false_or, if_true, if_false, reduceIte, RF_o H, RF_1227 H, RO_635 H, RL_635 H, RF_1228 H, RO_636 H, RL_636 H, RF_1229 H, RO_637 H, RL_637 H, RF_1241 H, RO_649 H, RL_649 H, zR_pE, zT_pE, zL_pE, zn_pE, zE_pE, zI_pE, zR_pI, zT_pI, zL_pI, zn_pI, zE_pI, zI_pI, eF, le10]
    exact stay 1 0
  | some sn =>
    obtain ⟨s, n⟩ := sn
    rw [ef] at eF
    have eF : f_X11_isFlow 616 w h = some (1, h) := eF
    obtain ⟨hs, hn, hn16, ew, ep⟩ := flw_64 R.1 hK ef
    obtain ⟨E, ev, rf, tk9, l1, l5, -⟩ := R.1.row hs hn
    have hes := ev.2.1.2
    have nw : (nI (16 * s + n)).toNatClampNeg = 16 * s + n := zi_nat (by omega)
    have gw : ¬ nI (16 * s + n) < 0 := zi_neg (by omega)
    have lw : ¬ 64 ≤ 16 * s + n := by omega
    simp only []
    by_cases ck1 : k < 0 ∨ nI (flE (shF (W s) n)).length ≤ k
    · have ei := w_no (h := h) ck1
      rw [if_pos ck1]
      simp only [f_X11_event_, f_X11_event__31, f_X11_event__37, f_X11_event__54, o10, o00, bh, isO, inR, ck_true, bind_some9, Nat.reduceLeDiff, Nat.reduceEqDiff, and_self, and_true, true_and, false_and, and_false, not_false_eq_true, not_true_eq_false, or_self, or_false, false_or, if_true, if_false, reduceIte, RF_o H, RF_1227 H, RO_635 H, RL_635 H, RF_1228 H, RO_636 H, RL_636 H, RF_1229 H, RO_637 H, RL_637 H, RF_1241 H, RO_649 H, RL_649 H, zR_pE, zT_pE, zL_pE, zn_pE, zE_pE, zI_pE, zR_pI, zT_pI, zL_pI, zn_pI, zE_pI, zI_pI, eF, ep, nw, gw, lw, ev.1, ei, le10]
      exact stay 1 0
    · have ei := w_yes (h := h) ck1
      rw [if_neg ck1]
      by_cases cq : q < 0 ∨ (4 : Int32) ≤ q
      · have ei2 := w_no (h := h) cq
        rw [if_pos cq]
        simp only [f_X11_event_, f_X11_event__31, f_X11_event__37, f_X11_event__54, o10, o00, bh, isO, inR, ck_true, bind_some9, Nat.reduceLeDiff, Nat.reduceEqDiff, and_self, and_true, true_and, false_and, and_false, not_false_eq_true, not_true_eq_false, or_self, or_false, false_or, if_true, if_false, reduceIte, RF_o H, RF_1227 H, RO_635 H, RL_635 H, RF_1228 H, RO_636 H, RL_636 H, RF_1229 H, RO_637 H, RL_637 H, RF_1241 H, RO_649 H, RL_649 H, zR_pE, zT_pE, zL_pE, zn_pE, zE_pE, zI_pE, zR_pI, zT_pI, zL_pI, zn_pI, zE_pI, zI_pI, eF, ep, nw, gw, lw, ev.1, ei, ei2, le20]
        exact stay 2 0
      · have ei2 := w_yes (h := h) cq
        rw [if_neg cq]
        obtain ⟨kn, kn1, rfl⟩ := zi_of (fun z => ck1 (Or.inl z))
        have hkl : kn < (flE (shF (W s) n)).length := by
          have : ¬ nI (flE (shF (W s) n)).length ≤ nI kn := fun z => ck1 (Or.inr z)
          rw [zi_le (by omega) kn1] at this
          omega
        rw [zi_nat kn1]
        obtain ⟨R0, e0, f0⟩ := R.th hK 0
        have H0 := (R0.1.base hK).1.1
        obtain ⟨i, rn, rt, hi, hrn, hKk, hiE, hrec⟩ := ev.at hkl
        have eE := w_event H0 (by omega : 16 * s + n < 64) (k := kn) (by omega) (by rw [zE_pI]; exact hiE)
        obtain ⟨E0, ev0, -⟩ := R0.1.row hs hn
        have ni : (nI i).toNatClampNeg = i := zi_nat (by omega)
        have gi : ¬ nI i < 0 := zi_neg (by omega)
        have li : ¬ 60000 ≤ i := by omega
        have rA : zE h 635 i = (evAt (flE (shF (W s) n)) kn).2.1 := hrec.2.2.1
        have rB : zE h 636 i = (evAt (flE (shF (W s) n)) kn).2.2.1 := hrec.2.2.2.1
        have rC : zE h 637 i = (evAt (flE (shF (W s) n)) kn).2.2.2 := hrec.2.2.2.2
        by_cases q0 : q = 0
        · rw [if_pos q0]
          have d0 := eq_true q0
          have eK : f_X11_kindOf 616 (nI i) (pI h 1200 616 0) = some (nI (evAt (flE (shF (W s) n)) kn).1, pI h 1200 616 0) := w_kind H0 (by omega) (hrec.on (tpS_0 h 0) (fun a => by omega)) hKk hrn
          simp only [f_X11_event_, f_X11_event__31, f_X11_event__37, f_X11_event__54, o10, o00, bh, isO, inR, ck_true, bind_some9, Nat.reduceLeDiff, Nat.reduceEqDiff, and_self, and_true, true_and, false_and, and_false, not_false_eq_true, not_true_eq_false, or_self, or_false, false_or, if_true, if_false, reduceIte, RF_o H, RF_1227 H, RO_635 H, RL_635 H, RF_1228 H, RO_636 H, RL_636 H, RF_1229 H, RO_637 H, RL_637 H, RF_1241 H, RO_649 H, RL_649 H, zR_pE, zT_pE, zL_pE, zn_pE, zE_pE, zI_pE, zR_pI, zT_pI, zL_pI, zn_pI, zE_pI, zI_pI, eF, ep, nw, gw, lw, ev.1, ei, ei2, le00, eE, d0, eK]
          exact stay 0 _
        · rw [if_neg q0]
          have d0 := eq_false q0
          by_cases q1 : q = 1
          · rw [if_pos q1]
            have d1 := eq_true q1
            simp only [f_X11_event_, f_X11_event__31, f_X11_event__37, f_X11_event__54, o10, o00, bh, isO, inR, ck_true, bind_some9, Nat.reduceLeDiff, Nat.reduceEqDiff, and_self, and_true, true_and, false_and, and_false, not_false_eq_true, not_true_eq_false, or_self, or_false, false_or, if_true, if_false, reduceIte, RF_o H, RF_1227 H, RO_635 H, RL_635 H, RF_1228 H, RO_636 H, RL_636 H, RF_1229 H, RO_637 H, RL_637 H, RF_1241 H, RO_649 H, RL_649 H, zR_pE, zT_pE, zL_pE, zn_pE, zE_pE, zI_pE, zR_pI, zT_pI, zL_pI, zn_pI, zE_pI, zI_pI, eF, ep, nw, gw, lw, ev.1, ei, ei2, le00, eE, d0, d1, ni, gi, li, rA]
            exact stay 0 _
          · rw [if_neg q1]
            have d1 := eq_false q1
            by_cases q2 : q = 2
            · rw [if_pos q2]
              have d2 := eq_true q2
              simp only [f_X11_event_, f_X11_event__31, f_X11_event__37, f_X11_event__54, o10, o00, bh, isO, inR, ck_true, bind_some9, Nat.reduceLeDiff, Nat.reduceEqDiff, and_self, and_true, true_and, false_and, and_false, not_false_eq_true, not_true_eq_false, or_self, or_false, false_or, if_true, if_false, reduceIte, RF_o H, RF_1227 H, RO_635 H, RL_635 H, RF_1228 H, RO_636 H, RL_636 H, RF_1229 H, RO_637 H, RL_637 H, RF_1241 H, RO_649 H, RL_649 H, zR_pE, zT_pE, zL_pE, zn_pE, zE_pE, zI_pE, zR_pI, zT_pI, zL_pI, zn_pI, zE_pI, zI_pI, eF, ep, nw, gw, lw, ev.1, ei, ei2, le00, eE, d0, d1, d2, ni, gi, li, rB]
              exact stay 0 _
            · rw [if_neg q2]
              have d2 := eq_false q2
              simp only [f_X11_event_, f_X11_event__31, f_X11_event__37, f_X11_event__54, o10, o00, bh, isO, inR, ck_true, bind_some9, Nat.reduceLeDiff, Nat.reduceEqDiff, and_self, and_true, true_and, false_and, and_false, not_false_eq_true, not_true_eq_false, or_self, or_false, false_or, if_true, if_false, reduceIte, RF_o H, RF_1227 H, RO_635 H, RL_635 H, RF_1228 H, RO_636 H, RL_636 H, RF_1229 H, RO_637 H, RL_637 H, RF_1241 H, RO_649 H, RL_649 H, zR_pE, zT_pE, zL_pE, zn_pE, zE_pE, zI_pE, zR_pI, zT_pI, zL_pI, zn_pI, zE_pI, zI_pI, eF, ep, nw, gw, lw, ev.1, ei, ei2, le00, eE, d0, d1, d2, ni, gi, li, rC]
              exact stay 0 _
theorem tskN_succ (h : Shd) (b : Bool) (k : Nat) : tskN h b (k + 1) = tskN h b k + if (decide (wkP (flW (shF h k)) = 0) && (!b || decide (flK (shF h k) ≠ 0))) = true then 1 else 0 := by
  unfold tskN
  rw [List.range_succ, List.filter_append, List.length_append, List.filter_cons]
  split <;> rfl
theorem tskN_le (h : Shd) (b : Bool) (k : Nat) : tskN h b k ≤ k := by
  have := List.length_filter_le (fun n => decide (wkP (flW (shF h n)) = 0) && (!b || decide (flK (shF h n) ≠ 0))) (List.range k)
  rw [List.length_range] at this
  exact this
theorem w_tasks {vs : Nat → List Prg} {now : Int32} {TX : List (Nat × Nat × Nat × Prg)} {K : Nat} {h : Hp} {W : Wld} (R : RW vs now TX K h W) (hK : K ≤ 1600) {s : Nat} (hs : s < 4) (b : Bool) : ∀ (m k fuel : Nat), k + m = shN (W s) → m < fuel → f_X11_tasks_8 fuel 616 (nI s) (if b = true then 2 else 1) (nI (tskN (W s) b k)) (nI (16 * s + k)) h = some (nI (tskN (W s) b (shN (W s))), h)
  | m, k, 0, _, hf => absurd hf (Nat.not_lt_zero _)
  | 0, k, fuel + 1, hk, hf => by
    obtain ⟨G, tb, bs⟩ := R.base hK
    have H := G.1
    obtain ⟨b1, b2, b3, -⟩ := bs s hs
    have nx : (nI s).toNatClampNeg = s := zi_nat (by omega)
    have gx : ¬ nI s < 0 := zi_neg (by omega)
    have lx : ¬ 4 ≤ s := by omega
    have c : nI (16 * s + shN (W s)) ≤ nI (16 * s + k) := (zi_le (by omega) (by omega)).mpr (by omega)
    have ek : k = shN (W s) := by omega
    simp only [f_X11_tasks_8, o10, o00, bh, isO, inR, ck_true, bind_some9, Nat.reduceLeDiff, Nat.reduceEqDiff, and_self, and_true, true_and, false_and, and_false, not_false_eq_true, not_true_eq_false, or_self, or_false, false_or, if_true, if_false, reduceIte, RF_o H, RF_1239 H, RO_647 H, RL_647 H, RF_1252 H, RO_660 H, RL_660 H, zR_pE, zT_pE, zL_pE, zn_pE, zE_pE, zI_pE, zR_pI, zT_pI, zL_pI, zn_pI, zE_pI, zI_pI, nx, gx, lx, b2, zi_16, c]
    rw [ek]
  | m + 1, k, fuel + 1, hk, hf => by
    obtain ⟨G, tb, bs⟩ := R.base hK
    have H := G.1
    obtain ⟨b1, b2, b3, -⟩ := bs s hs
    have nx : (nI s).toNatClampNeg = s := zi_nat (by omega)
    have gx : ¬ nI s < 0 := zi_neg (by omega)
    have lx : ¬ 4 ≤ s := by omega
    have c : ¬ nI (16 * s + shN (W s)) ≤ nI (16 * s + k) := zi_le0 (by omega) (by omega) (by omega)
    have nw : (nI (16 * s + k)).toNatClampNeg = 16 * s + k := zi_nat (by omega)
    have gw : ¬ nI (16 * s + k) < 0 := zi_neg (by omega)
    have lw : ¬ 64 ≤ 16 * s + k := by omega
    obtain ⟨E, ev, rf, tk9, l1, l5, -⟩ := R.row hs (by omega : k < shN (W s))
    have e60 := tk9.1
    have ih := w_tasks R hK hs b m (k + 1) fuel (by omega) (by omega)
    rw [tskN_succ] at ih
    rw [show 16 * s + (k + 1) = 16 * s + k + 1 by omega] at ih
    have z0 : nI (tskN (W s) b k) + (0 : Int32) = nI (tskN (W s) b k) := zi_add _ 0
    generalize hx : zE h 660 (16 * s + k) = x at *
    by_cases cx : x < (if b = true then 2 else 1)
    · have d := eq_true cx
      have hc : ¬ (decide (wkP (flW (shF (W s) k)) = 0) && (!b || decide (flK (shF (W s) k) ≠ 0))) = true := fun z => by
        have z := Bool.and_eq_true_iff.mp z
        have z1 := of_decide_eq_true z.1
        rw [e60, if_pos z1] at cx
        cases b with
        | false =>
          rw [show (if false = true then (2 : Int32) else 1) = 1 from rfl] at cx
          split at cx
          · exact absurd cx (by decide)
          · exact absurd cx (by decide)
        | true =>
          have z2 := of_decide_eq_true ((Bool.false_or _).symm.trans z.2)
          rw [if_neg z2, if_pos rfl] at cx
          exact absurd cx (by decide)
      rw [if_neg hc] at ih
      rw [← ih]
      simp only [f_X11_tasks_8, f_X11_tasks_41, o10, o00, bh, isO, inR, ck_true, bind_some9, Nat.reduceLeDiff, Nat.reduceEqDiff, and_self, and_true, true_and, false_and, and_false, not_false_eq_true, not_true_eq_false, or_self, or_false, false_or, if_true, if_false, reduceIte, RF_o H, RF_1239 H, RO_647 H, RL_647 H, RF_1252 H, RO_660 H, RL_660 H, zR_pE, zT_pE, zL_pE, zn_pE, zE_pE, zI_pE, zR_pI, zT_pI, zL_pI, zn_pI, zE_pI, zI_pI, nx, gx, lx, b2, zi_16, c, nw, gw, lw, hx, d, z0, zi_one, Nat.add_zero]
    · have d := eq_false cx
      have hc : (decide (wkP (flW (shF (W s) k)) = 0) && (!b || decide (flK (shF (W s) k) ≠ 0))) = true := by
        rw [e60] at cx
        by_cases h0 : wkP (flW (shF (W s) k)) = 0
        · rw [if_pos h0] at cx
          rw [decide_eq_true h0, Bool.true_and]
          cases b with
          | false => rfl
          | true =>
            rw [if_pos rfl] at cx
            by_cases hk0 : flK (shF (W s) k) = 0
            · rw [if_pos hk0] at cx; exact absurd (by decide) cx
            · rw [decide_eq_true hk0]; rfl
        · rw [if_neg h0] at cx
          exact absurd (by cases b <;> decide) cx
      rw [if_pos hc] at ih
      rw [← ih]
      simp only [f_X11_tasks_8, f_X11_tasks_41, o10, o00, bh, isO, inR, ck_true, bind_some9, Nat.reduceLeDiff, Nat.reduceEqDiff, and_self, and_true, true_and, false_and, and_false, not_false_eq_true, not_true_eq_false, or_self, or_false, false_or, if_true, if_false, reduceIte, RF_o H, RF_1239 H, RO_647 H, RL_647 H, RF_1252 H, RO_660 H, RL_660 H, zR_pE, zT_pE, zL_pE, zn_pE, zE_pE, zI_pE, zR_pI, zT_pI, zL_pI, zn_pI, zE_pI, zI_pI, nx, gx, lx, b2, zi_16, c, nw, gw, lw, hx, d, zi_one]
theorem w_shard {vs : Nat → List Prg} {c : Nat} {TX : List (Nat × Nat × Nat × Prg)} {K tk : Nat} {h : Hp} {W : Wld} (hK : K ≤ 1600) (R : RT vs c TX K tk h W) (s q : Int32) : aft vs c TX K tk h W 0 (wdShard W s q) (f_X11_shard 616 s q h) := by
  obtain ⟨R0, e0, f0⟩ := R.th (by omega) 0
  obtain ⟨G, tb, bs⟩ := R.1.base (by omega)
  have H := G.1
  have stay : ∀ r : Int32, aft vs c TX K tk h W 0 r (some (r, pI h 1200 616 0)) := fun r => ⟨_, rfl, e0, R0, f0⟩
  unfold wdShard
  by_cases cs : s < 0 ∨ (4 : Int32) ≤ s
  · have ei := w_no (h := pI h 1200 616 0) cs
    rw [if_pos cs]
    simp only [f_X11_shard, o10, o00, bh, isO, inR, ck_true, bind_some9, Nat.reduceLeDiff, Nat.reduceEqDiff, and_self, and_true, true_and, false_and, and_false, not_false_eq_true, not_true_eq_false, or_self, or_false, false_or, if_true, if_false, reduceIte, RF_o H, RF_1236 H, RO_644 H, RL_644 H, RF_1237 H, RO_645 H, RL_645 H, RF_1238 H, RO_646 H, RL_646 H, RF_1239 H, RO_647 H, RL_647 H, RF_1257 H, RO_665 H, RL_665 H, zR_pE, zT_pE, zL_pE, zn_pE, zE_pE, zI_pE, zR_pI, zT_pI, zL_pI, zn_pI, zE_pI, zI_pI, ei]
    exact stay _
  · have ei := w_yes (h := pI h 1200 616 0) cs
    rw [if_neg cs]
    obtain ⟨sn, sn1, rfl⟩ := zi_of (fun z => cs (Or.inl z))
    have hs : sn < 4 := by
      have : ¬ nI 4 ≤ nI sn := fun z => cs (Or.inr z)
      rw [zi_le (by omega) sn1] at this
      omega
    obtain ⟨b1, b2, b3, b4, b5, b6⟩ := bs sn hs
    have nx : (nI sn).toNatClampNeg = sn := zi_nat (by omega)
    have gx : ¬ nI sn < 0 := zi_neg (by omega)
    have lx : ¬ 4 ≤ sn := by omega
    rw [nx]
    simp only []
    by_cases q0 : q = 0
    · rw [if_pos q0]
      have d0 := eq_true q0
      simp only [f_X11_shard, o10, o00, bh, isO, inR, ck_true, bind_some9, Nat.reduceLeDiff, Nat.reduceEqDiff, and_self, and_true, true_and, false_and, and_false, not_false_eq_true, not_true_eq_false, or_self, or_false, false_or, if_true, if_false, reduceIte, RF_o H, RF_1236 H, RO_644 H, RL_644 H, RF_1237 H, RO_645 H, RL_645 H, RF_1238 H, RO_646 H, RL_646 H, RF_1239 H, RO_647 H, RL_647 H, RF_1257 H, RO_665 H, RL_665 H, zR_pE, zT_pE, zL_pE, zn_pE, zE_pE, zI_pE, zR_pI, zT_pI, zL_pI, zn_pI, zE_pI, zI_pI, ei, d0, nx, gx, lx, b1]
      exact stay _
    · rw [if_neg q0]
      have d0 := eq_false q0
      by_cases q1 : q = 1
      · rw [if_pos q1]
        have d1 := eq_true q1
        simp only [f_X11_shard, o10, o00, bh, isO, inR, ck_true, bind_some9, Nat.reduceLeDiff, Nat.reduceEqDiff, and_self, and_true, true_and, false_and, and_false, not_false_eq_true, not_true_eq_false, or_self, or_false, false_or, if_true, if_false, reduceIte, RF_o H, RF_1236 H, RO_644 H, RL_644 H, RF_1237 H, RO_645 H, RL_645 H, RF_1238 H, RO_646 H, RL_646 H, RF_1239 H, RO_647 H, RL_647 H, RF_1257 H, RO_665 H, RL_665 H, zR_pE, zT_pE, zL_pE, zn_pE, zE_pE, zI_pE, zR_pI, zT_pI, zL_pI, zn_pI, zE_pI, zI_pI, ei, d0, d1, nx, gx, lx, b5]
        exact stay _
      · rw [if_neg q1]
        have d1 := eq_false q1
        by_cases q2 : q = 2
        · rw [if_pos q2]
          have d2 := eq_true q2
          simp only [f_X11_shard, o10, o00, bh, isO, inR, ck_true, bind_some9, Nat.reduceLeDiff, Nat.reduceEqDiff, and_self, and_true, true_and, false_and, and_false, not_false_eq_true, not_true_eq_false, or_self, or_false, false_or, if_true, if_false, reduceIte, RF_o H, RF_1236 H, RO_644 H, RL_644 H, RF_1237 H, RO_645 H, RL_645 H, RF_1238 H, RO_646 H, RL_646 H, RF_1239 H, RO_647 H, RL_647 H, RF_1257 H, RO_665 H, RL_665 H, zR_pE, zT_pE, zL_pE, zn_pE, zE_pE, zI_pE, zR_pI, zT_pI, zL_pI, zn_pI, zE_pI, zI_pI, ei, d0, d1, d2, nx, gx, lx, b4]
          exact stay _
        · rw [if_neg q2]
          have d2 := eq_false q2
          by_cases q3 : q = 3
          · rw [if_pos q3]
            have d3 := eq_true q3
            simp only [f_X11_shard, o10, o00, bh, isO, inR, ck_true, bind_some9, Nat.reduceLeDiff, Nat.reduceEqDiff, and_self, and_true, true_and, false_and, and_false, not_false_eq_true, not_true_eq_false, or_self, or_false, false_or, if_true, if_false, reduceIte, RF_o H, RF_1236 H, RO_644 H, RL_644 H, RF_1237 H, RO_645 H, RL_645 H, RF_1238 H, RO_646 H, RL_646 H, RF_1239 H, RO_647 H, RL_647 H, RF_1257 H, RO_665 H, RL_665 H, zR_pE, zT_pE, zL_pE, zn_pE, zE_pE, zI_pE, zR_pI, zT_pI, zL_pI, zn_pI, zE_pI, zI_pI, ei, d0, d1, d2, d3, nx, gx, lx, b2]
            exact stay _
          · rw [if_neg q3]
            have d3 := eq_false q3
            by_cases q4 : q = 4
            · rw [if_pos q4]
              have d4 := eq_true q4
              obtain ⟨C, ⟨-, -, I, EE, sd, mn, fw, ob⟩, -⟩ := R.1 sn hs
              simp only [f_X11_shard, o10, o00, bh, isO, inR, ck_true, bind_some9, Nat.reduceLeDiff, Nat.reduceEqDiff, and_self, and_true, true_and, false_and, and_false, not_false_eq_true, not_true_eq_false, or_self, or_false, false_or, if_true, if_false, reduceIte, RF_o H, RF_1236 H, RO_644 H, RL_644 H, RF_1237 H, RO_645 H, RL_645 H, RF_1238 H, RO_646 H, RL_646 H, RF_1239 H, RO_647 H, RL_647 H, RF_1257 H, RO_665 H, RL_665 H, zR_pE, zT_pE, zL_pE, zn_pE, zE_pE, zI_pE, zR_pI, zT_pI, zL_pI, zn_pI, zE_pI, zI_pI, ei, d0, d1, d2, d3, d4, nx, gx, lx, ob.1]
              exact stay _
            · rw [if_neg q4]
              have d4 := eq_false q4
              have tt : ∀ b : Bool, f_X11_tasks 616 (nI sn) (if b = true then 2 else 1) (pI h 1200 616 0) = some (nI (tskN (W sn) b (shN (W sn))), pI h 1200 616 0) := fun b => by
                rw [← w_tasks R0.1 hK hs b (shN (W sn)) 0 fz (by omega) (fz_big (by omega))]
                unfold f_X11_tasks bh
                rw [show (16 : Int32) * nI sn = nI (16 * sn + 0) from zi_mul 16 sn]
                exact congrArg (fun z => f_X11_tasks_8 fz 616 (nI sn) (if b = true then 2 else 1) z (nI (16 * sn + 0)) (pI h 1200 616 0)) zi_zero
              by_cases q5 : q = 5
              · rw [if_pos q5]
                have d5 := eq_true q5
                have t5 : f_X11_tasks 616 (nI sn) 1 (pI h 1200 616 0) = _ := tt false
                simp only [f_X11_shard, o10, o00, bh, isO, inR, ck_true, bind_some9, Nat.reduceLeDiff, Nat.reduceEqDiff, and_self, and_true, true_and, false_and, and_false, not_false_eq_true, not_true_eq_false, or_self, or_false, false_or, if_true, if_false, reduceIte, RF_o H, RF_1236 H, RO_644 H, RL_644 H, RF_1237 H, RO_645 H, RL_645 H, RF_1238 H, RO_646 H, RL_646 H, RF_1239 H, RO_647 H, RL_647 H, RF_1257 H, RO_665 H, RL_665 H, zR_pE, zT_pE, zL_pE, zn_pE, zE_pE, zI_pE, zR_pI, zT_pI, zL_pI, zn_pI, zE_pI, zI_pI, ei, d0, d1, d2, d3, d4, d5, t5]
                exact stay _
              · rw [if_neg q5]
                have d5 := eq_false q5
                by_cases q6 : q = 6
                · rw [if_pos q6]
                  have d6 := eq_true q6
                  have t6 : f_X11_tasks 616 (nI sn) 2 (pI h 1200 616 0) = _ := tt true
                  simp only [f_X11_shard, o10, o00, bh, isO, inR, ck_true, bind_some9, Nat.reduceLeDiff, Nat.reduceEqDiff, and_self, and_true, true_and, false_and, and_false, not_false_eq_true, not_true_eq_false, or_self, or_false, false_or, if_true, if_false, reduceIte, RF_o H, RF_1236 H, RO_644 H, RL_644 H, RF_1237 H, RO_645 H, RL_645 H, RF_1238 H, RO_646 H, RL_646 H, RF_1239 H, RO_647 H, RL_647 H, RF_1257 H, RO_665 H, RL_665 H, zR_pE, zT_pE, zL_pE, zn_pE, zE_pE, zI_pE, zR_pI, zT_pI, zL_pI, zn_pI, zE_pI, zI_pI, ei, d0, d1, d2, d3, d4, d5, d6, t6]
                  exact stay _
                · rw [if_neg q6]
                  have d6 := eq_false q6
                  simp only [f_X11_shard, o10, o00, bh, isO, inR, ck_true, bind_some9, Nat.reduceLeDiff, Nat.reduceEqDiff, and_self, and_true, true_and, false_and, and_false, not_false_eq_true, not_true_eq_false, or_self, or_false, false_or, if_true, if_false, reduceIte, RF_o H, RF_1236 H, RO_644 H, RL_644 H, RF_1237 H, RO_645 H, RL_645 H, RF_1238 H, RO_646 H, RL_646 H, RF_1239 H, RO_647 H, RL_647 H, RF_1257 H, RO_665 H, RL_665 H, zR_pE, zT_pE, zL_pE, zn_pE, zE_pE, zI_pE, zR_pI, zT_pI, zL_pI, zn_pI, zE_pI, zI_pI, ei, d0, d1, d2, d3, d4, d5, d6]
                  exact stay _
