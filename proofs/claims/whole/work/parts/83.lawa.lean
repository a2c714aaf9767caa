/-! CLASS AND REFERENCE IN ONE HEAP -/
theorem w_disk5 {vs : Nat → List Prg} {c : Nat} {TX : List (Nat × Nat × Nat × Prg)} {K tk : Nat} {h : Hp} {W : Wld} (hK : K ≤ 1600) (R : RT vs c TX K tk h W) (hT : ∀ s r, s < 4 → r < 5 → dkT (shD (W s) r) < 16) (s r b i : Int32) : aft vs c TX K tk h W 0 (wdDisk W s r b i) (f_X11_disk 616 s r b i h) := by
  obtain ⟨R0, e0, f0⟩ := R.th (by omega) 0
  obtain ⟨G, tb, bs⟩ := R.1.base (by omega)
  have H := G.1
  have H0 := (R0.1.base hK).1.1
  have stay : ∀ r : Int32, aft vs c TX K tk h W 0 r (some (r, pI h 1200 616 0)) := fun r => ⟨_, rfl, e0, R0, f0⟩
  have eR := w_isReplica R0.1 hK s r
  unfold wdDisk
  cases er : rplc W s r with
  | none =>
    rw [er] at eR
    have eR : f_X11_isReplica 616 s r (pI h 1200 616 0) = some (0, pI h 1200 616 0) := eR
    simp only [f_X11_disk, o10, o00, bh, isO, inR, ck_true, bind_some9, Nat.reduceLeDiff, Nat.reduceEqDiff, and_self, and_true, true_and, false_and, and_false, not_false_eq_true, not_true_eq_false, or_self, or_false, false_or, if_true, if_false, reduceIte, RF_o H, RF_1230 H, RO_638 H, RL_638 H, RF_1231 H, RO_639 H, RL_639 H, RF_1232 H, RO_640 H, RL_640 H, RF_1233 H, RO_641 H, RL_641 H, zR_pE, zT_pE, zL_pE, zn_pE, zE_pE, zI_pE, zR_pI, zT_pI, zL_pI, zn_pI, zE_pI, zI_pI, eR]
    exact stay _
  | some sr =>
    obtain ⟨sn, rn⟩ := sr
    rw [er] at eR
    have eR : f_X11_isReplica 616 s r (pI h 1200 616 0) = some (1, pI h 1200 616 0) := eR
    obtain ⟨hs, hr, rfl, rfl, -, -⟩ := rplc_some er (R.1.Z hK)
    have z5 := R.1.Z hK sn hs
    obtain ⟨⟨I, dk⟩, -⟩ := R.1.disk hs hr
    have hT := hT sn rn hs (by omega)
    obtain ⟨⟨u1, u2, u3, u4⟩, ⟨u5, u6⟩, u7, u8, u9⟩ := dk
    have nx : (nI (5 * sn + rn)).toNatClampNeg = 5 * sn + rn := zi_nat (by omega)
    have gx : ¬ nI (5 * sn + rn) < 0 := zi_neg (by omega)
    have lx : ¬ 20 ≤ 5 * sn + rn := by omega
    simp only []
    by_cases cb : b < 0 ∨ (256 : Int32) ≤ b
    · have ei := w_no (h := pI h 1200 616 0) cb
      rw [if_pos (by rcases cb with z | z; exact Or.inl z; exact Or.inr (Or.inl z))]
      simp only [f_X11_disk, o10, o00, bh, isO, inR, ck_true, bind_some9, Nat.reduceLeDiff, Nat.reduceEqDiff, and_self, and_true, true_and, false_and, and_false, not_false_eq_true, not_true_eq_false, or_self, or_false, false_or, if_true, if_false, reduceIte, RF_o H, RF_1230 H, RO_638 H, RL_638 H, RF_1231 H, RO_639 H, RL_639 H, RF_1232 H, RO_640 H, RL_640 H, RF_1233 H, RO_641 H, RL_641 H, zR_pE, zT_pE, zL_pE, zn_pE, zE_pE, zI_pE, zR_pI, zT_pI, zL_pI, zn_pI, zE_pI, zI_pI, eR, ei]
      exact stay _
    · have ei := w_yes (h := pI h 1200 616 0) cb
      by_cases ci : i < 0 ∨ (512 : Int32) ≤ i
      · have ei2 := w_no (h := pI h 1200 616 0) ci
        rw [if_pos (Or.inr (Or.inr ci))]
        simp only [f_X11_disk, o10, o00, bh, isO, inR, ck_true, bind_some9, Nat.reduceLeDiff, Nat.reduceEqDiff, and_self, and_true, true_and, false_and, and_false, not_false_eq_true, not_true_eq_false, or_self, or_false, false_or, if_true, if_false, reduceIte, RF_o H, RF_1230 H, RO_638 H, RL_638 H, RF_1231 H, RO_639 H, RL_639 H, RF_1232 H, RO_640 H, RL_640 H, RF_1233 H, RO_641 H, RL_641 H, zR_pE, zT_pE, zL_pE, zn_pE, zE_pE, zI_pE, zR_pI, zT_pI, zL_pI, zn_pI, zE_pI, zI_pI, eR, ei, ei2]
        exact stay _
      · have ei2 := w_yes (h := pI h 1200 616 0) ci
        rw [if_neg (by rintro (z | z | z | z); exact cb (Or.inl z); exact cb (Or.inr z); exact ci (Or.inl z); exact ci (Or.inr z))]
        obtain ⟨bn, bn1, rfl⟩ := zi_of (fun z => cb (Or.inl z))
        have hb : bn < 256 := by
          have : ¬ nI 256 ≤ nI bn := fun z => cb (Or.inr z)
          rw [zi_le (by omega) bn1] at this
          omega
        obtain ⟨jn, jn1, rfl⟩ := zi_of (fun z => ci (Or.inl z))
        have hj : jn < 512 := by
          have : ¬ nI 512 ≤ nI jn := fun z => ci (Or.inr z)
          rw [zi_le (by omega) jn1] at this
          omega
        rw [zi_nat bn1, zi_nat jn1]
        have e1 : (16 : Int32) * nI (dkL (shD (W sn) rn)).length + nI (dkT (shD (W sn) rn)) = nI (dkSz (shD (W sn) rn)) := by rw [show (16 : Int32) = nI 16 from rfl, zi_mul, zi_add]; rfl
        have e2 : nI (512 * bn) + nI jn = nI (512 * bn + jn) := zi_add _ _
        have e3 : (512 : Int32) * nI bn = nI (512 * bn) := zi_mul 512 bn
        have hz : dkSz (shD (W sn) rn) < 16 * 8192 + 16 := by unfold dkSz; omega
        have q1 : nI (512 * bn) < nI (dkSz (shD (W sn) rn)) ↔ 512 * bn < dkSz (shD (W sn) rn) := zi_lt (by omega) (by omega)
        have q2 : nI (512 * bn + jn) < nI (dkSz (shD (W sn) rn)) ↔ 512 * bn + jn < dkSz (shD (W sn) rn) := zi_lt (by omega) (by omega)
        have ed : nI (512 * bn + jn) / (16 : Int32) = nI ((512 * bn + jn) / 16) := zi_div (b := 16) (by omega) (by omega) (by omega)
        by_cases c1 : 512 * bn < dkSz (shD (W sn) rn)
        · have d1 := eq_true (q1.mpr c1)
          rw [if_pos c1]
          by_cases c2 : 512 * bn + jn < dkSz (shD (W sn) rn)
          · have d2 := eq_true (q2.mpr c2)
            rw [if_pos c2]
            have q3 : nI (dkL (shD (W sn) rn)).length ≤ nI ((512 * bn + jn) / 16) ↔ (dkL (shD (W sn) rn)).length ≤ (512 * bn + jn) / 16 := zi_le (by omega) (by omega)
            unfold dkBt
            by_cases c3 : (512 * bn + jn) / 16 < (dkL (shD (W sn) rn)).length
            · have d3 := eq_false (fun z => absurd (q3.mp z) (by omega))
              rw [if_pos c3]
              have hI1 : I[(512 * bn + jn) / 16]? = some (I[(512 * bn + jn) / 16]'(by omega)) := List.getElem?_eq_getElem (by omega)
              have hL1 := List.getElem?_eq_getElem c3
              have hid := u8 _ _ _ hI1 hL1
              have h38 := u7 _ _ hI1
              generalize I[(512 * bn + jn) / 16]'(by omega) = ii at *
              have er9 : (dkL (shD (W sn) rn)).getD ((512 * bn + jn) / 16) (0, 0, 0, 0, 0, 0) = (dkL (shD (W sn) rn))[(512 * bn + jn) / 16]'c3 := by rw [List.getD_eq_getElem?_getD, hL1]; rfl
              rw [er9]
              have hi6 : ii < 60000 := by have := hid.1; omega
              have e137 := w_disk_137 H0 hi6 (hid.2.on (tpS_0 h 0) (fun a => by omega)) (by omega : 512 * bn + jn < 2000000000)
              have n8 : (nI (8192 * (5 * sn + rn) + (512 * bn + jn) / 16)).toNatClampNeg = 8192 * (5 * sn + rn) + (512 * bn + jn) / 16 := zi_nat (by omega)
              have g8 : ¬ nI (8192 * (5 * sn + rn) + (512 * bn + jn) / 16) < 0 := zi_neg (by omega)
              have l8 : ¬ 163840 ≤ 8192 * (5 * sn + rn) + (512 * bn + jn) / 16 := by omega
              simp only [f_X11_disk, o10, o00, bh, isO, inR, ck_true, bind_some9, Nat.reduceLeDiff, Nat.reduceEqDiff, and_self, and_true, true_and, false_and, and_false, not_false_eq_true, not_true_eq_false, or_self, or_false, false_or, if_true, if_false, reduceIte, RF_o H, RF_1230 H, RO_638 H, RL_638 H, RF_1231 H, RO_639 H, RL_639 H, RF_1232 H, RO_640 H, RL_640 H, RF_1233 H, RO_641 H, RL_641 H, zR_pE, zT_pE, zL_pE, zn_pE, zE_pE, zI_pE, zR_pI, zT_pI, zL_pI, zn_pI, zE_pI, zI_pI, eR, ei, ei2, zi_five, nx, gx, lx, u3, u4, e1, e2, e3, d1, d2, ed, d3, zi_big, n8, g8, l8, h38, e137]
              exact stay _
            · have d3 := eq_true (q3.mpr (by omega))
              rw [if_neg c3]
              have t0 : dkT (shD (W sn) rn) ≠ 0 := by unfold dkSz at c2; omega
              obtain ⟨ii, i1, i2⟩ := u9 t0
              have hi6 : ii < 60000 := by have := i2.1; omega
              have e137 := w_disk_137 H0 hi6 (i2.2.on (tpS_0 h 0) (fun a => by omega)) (by omega : 512 * bn + jn < 2000000000)
              simp only [f_X11_disk, o10, o00, bh, isO, inR, ck_true, bind_some9, Nat.reduceLeDiff, Nat.reduceEqDiff, and_self, and_true, true_and, false_and, and_false, not_false_eq_true, not_true_eq_false, or_self, or_false, false_or, if_true, if_false, reduceIte, RF_o H, RF_1230 H, RO_638 H, RL_638 H, RF_1231 H, RO_639 H, RL_639 H, RF_1232 H, RO_640 H, RL_640 H, RF_1233 H, RO_641 H, RL_641 H, zR_pE, zT_pE, zL_pE, zn_pE, zE_pE, zI_pE, zR_pI, zT_pI, zL_pI, zn_pI, zE_pI, zI_pI, eR, ei, ei2, zi_five, nx, gx, lx, u3, u4, e1, e2, e3, d1, d2, ed, d3, i1, e137]
              exact stay _
          · have d2 := eq_false (fun z => c2 (q2.mp z))
            rw [if_neg c2]
            simp only [f_X11_disk, o10, o00, bh, isO, inR, ck_true, bind_some9, Nat.reduceLeDiff, Nat.reduceEqDiff, and_self, and_true, true_and, false_and, and_false, not_false_eq_true, not_true_eq_false, or_self, or_false, false_or, if_true, if_false, reduceIte, RF_o H, RF_1230 H, RO_638 H, RL_638 H, RF_1231 H, RO_639 H, RL_639 H, RF_1232 H, RO_640 H, RL_640 H, RF_1233 H, RO_641 H, RL_641 H, zR_pE, zT_pE, zL_pE, zn_pE, zE_pE, zI_pE, zR_pI, zT_pI, zL_pI, zn_pI, zE_pI, zI_pI, eR, ei, ei2, zi_five, nx, gx, lx, u3, u4, e1, e2, e3, d1, d2]
            exact stay _
        · have d1 := eq_false (fun z => c1 (q1.mp z))
          rw [if_neg c1]
          simp only [f_X11_disk, o10, o00, bh, isO, inR, ck_true, bind_some9, Nat.reduceLeDiff, Nat.reduceEqDiff, and_self, and_true, true_and, false_and, and_false, not_false_eq_true, not_true_eq_false, or_self, or_false, false_or, if_true, if_false, reduceIte, RF_o H, RF_1230 H, RO_638 H, RL_638 H, RF_1231 H, RO_639 H, RL_639 H, RF_1232 H, RO_640 H, RL_640 H, RF_1233 H, RO_641 H, RL_641 H, zR_pE, zT_pE, zL_pE, zn_pE, zE_pE, zI_pE, zR_pI, zT_pI, zL_pI, zn_pI, zE_pI, zI_pI, eR, ei, ei2, zi_five, nx, gx, lx, u3, u4, e1, e2, e3, d1]
          exact stay _
/-- the reference's cells are the same -/
def sameR (h h1 : Hp) : Prop := 672 ≤ zn h1 ∧ ∀ a, 616 ≤ a → a < 672 → zT h1 a = zT h a ∧ zL h1 a = zL h a ∧ ∀ j, zI h1 j a = zI h j a ∧ zR h1 j a = zR h j a ∧ zE h1 a j = zE h a j
theorem sameR.of {h h1 : Hp} {own : Nat → Nat} (w : owS own) (hz : 672 ≤ zn h) (f : cf (fun a _ => own a ≠ 101) h h1) : sameR h h1 := by
  refine ⟨Nat.le_trans hz f.1, fun a h1 h2 => ⟨(f.2.1 a (by omega)).1, (f.2.1 a (by omega)).2, fun j => ?_⟩⟩
  obtain ⟨a1, a2, a3, a4, a5, a6⟩ := f.2.2 a j (by omega) (fun z => z (ow_hi w h1 h2))
  exact ⟨a1, a2, a4⟩
theorem sameR.RF {h h1 : Hp} (s : sameR h h1) (H : RF h) : RF h1 := by
  obtain ⟨H1, H2, H3⟩ := H
  refine ⟨s.1, (s.2 616 (by omega) (by omega)).1.trans H2, fun i hi => ?_⟩
  obtain ⟨a1, a2, a3⟩ := H3 i hi
  exact ⟨((s.2 616 (by omega) (by omega)).2.2 _).2.1.trans a1, (s.2 _ (by omega) (by omega)).1.trans a2, (s.2 _ (by omega) (by omega)).2.1.trans a3⟩
def farS (a _ : Nat) : Prop := a < 616 ∨ 671 < a
/-- h with the reference's numbers of h1 -/
def mixH (h h1 : Hp) : Hp := (h.1, h.2.1, h.2.2.1, (fun f a => if a = 616 then zI h1 f 616 else zI h f a), zE h1, zR h, zQ h, zJ h, zX h)
theorem mix_f {h h1 : Hp} (s : sameR h h1) : frx farS h (mixH h h1) := by
  refine ⟨⟨rfl, rfl, rfl, rfl, rfl, rfl, rfl⟩, fun f a ha => if_neg ha, fun f _ => ?_, fun a j hj => ?_⟩
  · show (if 616 = 616 then zI h1 f 616 else zI h f 616) = zI h f 616
    rw [if_pos rfl]
    exact ((s.2 616 (by omega) (by omega)).2.2 f).1
  · unfold farS at hj
    exact ((s.2 a (by omega) (by omega)).2.2 j).2.2
theorem RT.onC {vs : Nat → List Prg} {c : Nat} {TX : List (Nat × Nat × Nat × Prg)} {K tk : Nat} {h h1 : Hp} {W : Wld} (R : RT vs c TX K tk h W) (s : sameR h h1) : RT vs c TX K tk h1 W := by
  obtain ⟨R, l, t, e⟩ := R
  have f := mix_f s
  have eI : ∀ j, zI h1 j 616 = zI h j 616 := fun j => ((s.2 616 (by omega) (by omega)).2.2 j).1
  refine ⟨fun x hx => ?_, ?_, t, (eI _).trans e⟩
  · obtain ⟨C, ⟨⟨g1, g2, g3, g4, g5⟩, hI, I, EE, rs⟩, R2, R3⟩ := R x hx
    have T1 : txOK (mixH h h1) vs TX := g4.on f (fun a j z1 z2 z => by unfold farS at z; omega)
    have rs1 : rsAt (mixH h h1) _ I EE x (W x) := rs.on f (fun a i _ => by
      by_cases c : a < 633 ∨ 637 < a
      · exact Or.inr c
      · exact Or.inl (fun z => by unfold farS at z; omega)) (fun a j z1 z => by
      unfold farS at z
      unfold shS at z1
      rcases z1 with z1 | z1 | z1 | z1 | z1 | z1 | z1 <;> omega)
    exact ⟨C, ⟨⟨s.RF g1, (eI _).trans g2, (eI _).trans g3, T1, g5⟩, hI, I, EE, rs1⟩, R2, R3⟩
  · intro p hp
    have : zE h1 622 p = zE h 622 p := ((s.2 622 (by omega) (by omega)).2.2 p).2.2
    rw [this]
    exact l p hp
theorem RX.onC {vs : Nat → List Prg} {TX : List (Nat × Nat × Nat × Prg)} {h h1 : Hp} {T : List Int32} {fa : Int32} {St : Nat} (q : RX vs TX h T fa St) (s : sameR h h1) : RX vs TX h1 T fa St := by
  have eI : ∀ j, zI h1 j 616 = zI h j 616 := fun j => ((s.2 616 (by omega) (by omega)).2.2 j).1
  have eE : ∀ a j, 616 ≤ a → a < 672 → zE h1 a j = zE h a j := fun a j g1 g2 => ((s.2 a g1 g2).2.2 j).2.2
  obtain ⟨⟨H, t, q1, q2⟩, q3, q4, ⟨q5, q6⟩, q7, q8⟩ := q
  exact ⟨⟨s.RF H, t, (eI _).trans q1, fun k c hk => (eE _ _ (by omega) (by omega)).trans (q2 k c hk)⟩, (eI _).trans q3, (eI _).trans q4, ⟨(eI _).trans q5, q6⟩, fun p hp => (eE _ _ (by omega) (by omega)).trans (q7 p hp), fun K => (q8 K).same (fun r h1 h2 => eE r K (by omega) (by omega))⟩
theorem CL.onR {vs : Nat → List Prg} {now : Int32} {h h1 : Hp} {own : Nat → Nat} {u : Nat → Nat → Nat} {v : Nat → Nat} {W : Wld} {T : List Int32} {fa : Int32} {tk : Nat} {S : Nat → Nat → Prop} (C : CL vs now h own u v W T fa tk) (f : cf S h h1) (hS : ∀ a j, a < zn h → S a j → 616 ≤ a ∧ a < 672) : CL vs now h1 own u v W T fa tk := by
  obtain ⟨⟨cx, tp, sh⟩, c2, c3, c4, c5⟩ := C
  have w := cx.1
  have f : cf (fun a _ => 616 ≤ a ∧ a < 672) h h1 := f.mono hS
  have hS1 : ∀ a : Nat, (616 ≤ a ∧ a < 672) → own a = 101 := fun a z => ow_hi w z.1 z.2
  refine ⟨⟨cx.on f (exO.rf _ _) (fun a j ha z => ?_), tp.on f (fun j _ _ => by omega) (fun j => by omega), fun s hs => (sh s hs).off w hs f (exO.rf _ _) (fun a j ha z => ?_)⟩, c2.on f (fun j _ _ => by omega) (fun j => by omega), (f.I c2.1.1 (by omega)).trans c3, (f.I tp.1.1 (by omega)).trans c4, c5.on cx.2.2.1 f (fun p hp => by omega)⟩
  · rcases ha with ha | ha
    · rw [hS1 a z] at ha; omega
    · omega
  · rw [hS1 a z] at ha; omega
theorem RT.S {vs : Nat → List Prg} {c : Nat} {TX : List (Nat × Nat × Nat × Prg)} {K tk : Nat} {h : Hp} {W : Wld} (R : RT vs c TX K tk h W) : WdS vs K W := fun s hs => by
  obtain ⟨C, ⟨-, ⟨hI, hY⟩, -⟩, R2, R3⟩ := R.1 s hs
  exact ⟨C, ⟨hI, R2, R3⟩, hY⟩
/-- all that holds behind n calls -/
def LSx (n : Nat) (vs : Nat → List Prg) (c : Nat) (TX : List (Nat × Nat × Nat × Prg)) (K tk : Nat) (T : List Int32) (fa : Int32) (St : Nat) (W : Wld) (own : Nat → Nat) (u : Nat → Nat → Nat) (v : Nat → Nat) (h : Hp) : Prop := (CL vs (nI c) h own u v W T fa tk ∧ RT vs c TX K tk h W ∧ RX vs TX h T fa St) ∧ (isO h 671 24 ∧ zL h 671 = 1) ∧ (vsOK vs ∧ vsDg vs) ∧ ((K ≤ 3 * n ∧ tk ≤ n ∧ c ≤ 500 * n ∧ 3 * St + T.length ≤ 8 * n ∧ TX.length ≤ n) ∧ ∀ p, p < 8 → (vs p).length ≤ n) ∧ zs h ≤ 700000 + 1024 * usm u + 96 * sum4 v + 1600 * n ∧ zn h ≤ 672 + usm u + 3 * sum4 v + 20 * n
def LSt (n : Nat) (h : Hp) : Prop := ∃ vs c TX K tk T fa St W own u v, LSx n vs c TX K tk T fa St W own u v h
/-- a call of both is done -/
theorem LSx.fin {n : Nat} {vs vs1 : Nat → List Prg} {c c1 : Nat} {TX TX1 : List (Nat × Nat × Nat × Prg)} {K K1 tk tk1 : Nat} {T T1 : List Int32} {fa fa1 : Int32} {St St1 : Nat} {W W1 : Wld} {own own1 : Nat → Nat} {u u1 : Nat → Nat → Nat} {v v1 : Nat → Nat} {h h1 h2 : Hp} {F : Nat → Nat → Prop} (L : LSx n vs c TX K tk T fa St W own u v h) (C1 : CL vs1 (nI c1) h1 own1 u1 v1 W1 T1 fa1 tk1) (o : isO h1 671 24 ∧ zL h1 671 = 1) (a1 : zs h1 + 1024 * usm u + 96 * sum4 v ≤ zs h + 1024 * usm u1 + 96 * sum4 v1 + 1600) (a2 : zn h1 + usm u + 3 * sum4 v ≤ zn h + usm u1 + 3 * sum4 v1 + 20) (R1 : RT vs1 c1 TX1 K1 tk1 h2 W1) (X1 : RX vs1 TX1 h2 T1 fa1 St1) (f : frx F h1 h2) (hF : ∀ a j, F a j → 616 ≤ a ∧ a < 671) (v1' : vsOK vs1 ∧ vsDg vs1) (b : (K1 ≤ 3 * (n + 1) ∧ tk1 ≤ n + 1 ∧ c1 ≤ 500 * (n + 1) ∧ 3 * St1 + T1.length ≤ 8 * (n + 1) ∧ TX1.length ≤ n + 1) ∧ ∀ p, p < 8 → (vs1 p).length ≤ n + 1) : LSt (n + 1) h2 := by
  obtain ⟨-, -, -, -, z1, z2⟩ := L
  obtain ⟨e1, e2⟩ := frx_z f
  refine ⟨vs1, c1, TX1, K1, tk1, T1, fa1, St1, W1, own1, u1, v1, ⟨C1.onR (cf_frx f) (fun a j _ z => ?_), R1, X1⟩, ⟨(cf_frx f).O o.1, ((cf_frx f).L o.1).trans o.2⟩, v1', b, by omega, by omega⟩
  rcases z with z | z
  · have := hF a j z; omega
  · omega
theorem tpS_in : ∀ a j, tpS a j → 616 ≤ a ∧ a < 671 := fun a j z => by
  rcases z with z | z | z
  · rcases z with ⟨s, -, z⟩ | z
    · unfold shS at z; omega
    · unfold shX at z; omega
  · omega
  · omega
theorem acL.o {h h1 : Hp} {own own1 : Nat → Nat} {u u1 : Nat → Nat → Nat} {v v1 : Nat → Nat} (a : acL h own u v h1 own1 u1 v1) (w : owS own) (o : isO h 671 24 ∧ zL h 671 = 1) : isO h1 671 24 ∧ zL h1 671 = 1 := ⟨a.2.1.O o.1, (a.2.1.L o.1).trans o.2⟩
/-- a call that answers -/
theorem L_step {n : Nat} {vs : Nat → List Prg} {c : Nat} {TX : List (Nat × Nat × Nat × Prg)} {K K1 tk : Nat} {T : List Int32} {fa : Int32} {St : Nat} {W W1 : Wld} {own : Nat → Nat} {u : Nat → Nat → Nat} {v : Nat → Nat} {h : Hp} {r th : Int32} {F10 : Option (Int32 × Hp)} {F11 : Hp → Option (Int32 × Hp)} (L : LSx n vs c TX K tk T fa St W own u v h) (a : aC vs (nI c) h own u v W1 r F10) (b : ∀ h1, RT vs c TX K tk h1 W → aft vs c TX K1 tk h1 W1 th r (F11 h1)) (hK : K1 ≤ K + 3) : ∃ h1 h2, F10 = some (r, h1) ∧ isO h1 616 12 ∧ F11 h1 = some (r, h2) ∧ LSt (n + 1) h2 := by
  obtain ⟨⟨C, R, X⟩, o, vv, bb, -⟩ := id L
  obtain ⟨h1, own1, u1, v1, x1, x2, x3⟩ := a
  obtain ⟨C1, a1⟩ := C.actW x2 x3
  have sm := sameR.of C.1.1.1 C.1.1.2.1 a1.2.1
  obtain ⟨h2, y1, y2, y3, y4⟩ := b h1 (R.onC sm)
  refine ⟨h1, h2, x1, RF_o (X.onC sm).1.1, y1, L.fin C1 (a1.o C.1.1.1 o) ?_ ?_ y3 ((X.onC sm).tp y4) y4 tpS_in vv ⟨?_, fun p hp => ?_⟩⟩
  · have := a1.2.2.1; omega
  · have := a1.2.2.2; omega
  · obtain ⟨⟨b1, b2, b3, b4, b5⟩, -⟩ := bb
    exact ⟨by omega, by omega, by omega, by omega, by omega⟩
  · have := bb.2 p hp; omega
/-! THE LAW, CALL BY CALL -/
abbrev KT : Type := Nat → Nat → Nat → Nat → Int32 → Hp → Option (Int32 × Hp)
def lw0 (SL : Nat) (xs : Nat → Int32) (K : KT) (l4 : Int32) (h : Hp) : Option (Int32 × Hp) := ck (inR (l4 + ((1 : Int32))) SL) (ck (inR (l4 + ((2 : Int32))) SL) (ck (inR (l4 + ((3 : Int32))) SL) (ck (isO h 8 11) ((f_X10_type 8 ((((xs (l4 + ((1 : Int32))).toNatClampNeg).toInt64) <<< (((32 : Int32)).toInt64 &&& 63)) ||| (((xs (l4 + ((2 : Int32))).toNatClampNeg).toInt64) &&& ((4294967295 : Int64)))) (xs (l4 + ((3 : Int32))).toNatClampNeg) h).bind (fun q21 => ck (inR (l4 + ((1 : Int32))) SL) (ck (inR (l4 + ((2 : Int32))) SL) (ck (inR (l4 + ((3 : Int32))) SL) (ck (isO (q21.2) 616 12) ((f_X11_type 616 ((((xs (l4 + ((1 : Int32))).toNatClampNeg).toInt64) <<< (((32 : Int32)).toInt64 &&& 63)) ||| (((xs (l4 + ((2 : Int32))).toNatClampNeg).toInt64) &&& ((4294967295 : Int64)))) (xs (l4 + ((3 : Int32))).toNatClampNeg) (q21.2)).bind (fun q26 => if (q21.1) = (q26.1) then (f_L_law_1085 SL xs K 1 8 616 671 l4 (q26.2)) else (some ((0 : Int32), q26.2))))))))))))
def lw1 (SL : Nat) (xs : Nat → Int32) (K : KT) (l4 : Int32) (h : Hp) : Option (Int32 × Hp) := ck (inR (l4 + ((1 : Int32))) SL) ((f_L_program 8 (xs (l4 + ((1 : Int32))).toNatClampNeg) 671 h).bind (fun q31 => ck (inR (l4 + ((1 : Int32))) SL) (ck (isO (q31.2) 616 12) ((f_X11_program 616 (xs (l4 + ((1 : Int32))).toNatClampNeg) (q31.2)).bind (fun q33 => ck (isO (q33.2) 616 12) ((f_X11_thrown 616 (q33.2)).bind (fun q35 => if (q35.1) = (q31.1) then (if (q31.1) = (0) then (ck (isO (q35.2) 671 24) (ck (inR ((0 : Int32)) (zL (q35.2) 671)) (if (lg_cmp (zX (q35.2) 671 ((0 : Int32)).toNatClampNeg) ((q33.1).toInt64)) = (0) then (f_L_law_258 SL xs K 1 8 616 671 l4 (q35.2)) else (some ((0 : Int32), q35.2))))) else (f_L_law_258 SL xs K 1 8 616 671 l4 (q35.2))) else (some ((0 : Int32), q35.2)))))))))
def lw2 (SL : Nat) (xs : Nat → Int32) (K : KT) (l4 : Int32) (h : Hp) : Option (Int32 × Hp) := ck (isO h 8 11) ((f_X10_fault 8 h).bind (fun q43 => ck (isO (q43.2) 616 12) ((f_X11_fault 616 (q43.2)).bind (fun q45 => if (q43.1) = (q45.1) then (f_L_law_1085 SL xs K 1 8 616 671 l4 (q45.2)) else (some ((0 : Int32), q45.2))))))
def lw3 (SL : Nat) (xs : Nat → Int32) (K : KT) (l4 : Int32) (h : Hp) : Option (Int32 × Hp) := ck (inR (l4 + ((1 : Int32))) SL) (ck (inR (l4 + ((2 : Int32))) SL) (ck (inR (l4 + ((3 : Int32))) SL) (ck (isO h 8 11) ((f_X10_start 8 (xs (l4 + ((1 : Int32))).toNatClampNeg) (xs (l4 + ((2 : Int32))).toNatClampNeg) (xs (l4 + ((3 : Int32))).toNatClampNeg) h).bind (fun q52 => ck (inR (l4 + ((1 : Int32))) SL) (ck (inR (l4 + ((2 : Int32))) SL) (ck (inR (l4 + ((3 : Int32))) SL) (ck (isO (q52.2) 616 12) ((f_X11_start 616 (xs (l4 + ((1 : Int32))).toNatClampNeg) (xs (l4 + ((2 : Int32))).toNatClampNeg) (xs (l4 + ((3 : Int32))).toNatClampNeg) (q52.2)).bind (fun q57 => if (q52.1) = (q57.1) then (f_L_law_1085 SL xs K 1 8 616 671 l4 (q57.2)) else (some ((0 : Int32), q57.2))))))))))))
def lw4 (SL : Nat) (xs : Nat → Int32) (K : KT) (l4 : Int32) (h : Hp) : Option (Int32 × Hp) := ck (inR (l4 + ((1 : Int32))) SL) (ck (inR (l4 + ((2 : Int32))) SL) (ck (inR (l4 + ((3 : Int32))) SL) (ck (isO h 8 11) ((f_X10_signal 8 (xs (l4 + ((1 : Int32))).toNatClampNeg) (xs (l4 + ((2 : Int32))).toNatClampNeg) (xs (l4 + ((3 : Int32))).toNatClampNeg) h).bind (fun q64 => ck (inR (l4 + ((1 : Int32))) SL) (ck (inR (l4 + ((2 : Int32))) SL) (ck (inR (l4 + ((3 : Int32))) SL) (ck (isO (q64.2) 616 12) ((f_X11_signal 616 (xs (l4 + ((1 : Int32))).toNatClampNeg) (xs (l4 + ((2 : Int32))).toNatClampNeg) (xs (l4 + ((3 : Int32))).toNatClampNeg) (q64.2)).bind (fun q69 => if (q64.1) = (q69.1) then (f_L_law_1085 SL xs K 1 8 616 671 l4 (q69.2)) else (some ((0 : Int32), q69.2))))))))))))
def lw5 (SL : Nat) (xs : Nat → Int32) (K : KT) (l4 : Int32) (h : Hp) : Option (Int32 × Hp) := ck (inR (l4 + ((1 : Int32))) SL) (ck (isO h 8 11) ((f_X10_cancel 8 (xs (l4 + ((1 : Int32))).toNatClampNeg) h).bind (fun q74 => ck (inR (l4 + ((1 : Int32))) SL) (ck (isO (q74.2) 616 12) ((f_X11_cancel 616 (xs (l4 + ((1 : Int32))).toNatClampNeg) (q74.2)).bind (fun q77 => if (q74.1) = (q77.1) then (f_L_law_1085 SL xs K 1 8 616 671 l4 (q77.2)) else (some ((0 : Int32), q77.2))))))))
def lw6 (SL : Nat) (xs : Nat → Int32) (K : KT) (l4 : Int32) (h : Hp) : Option (Int32 × Hp) := ck (inR (l4 + ((1 : Int32))) SL) (ck (inR (l4 + ((2 : Int32))) SL) ((f_L_query 8 (xs (l4 + ((1 : Int32))).toNatClampNeg) (xs (l4 + ((2 : Int32))).toNatClampNeg) 671 h).bind (fun q83 => ck (inR (l4 + ((1 : Int32))) SL) (ck (inR (l4 + ((2 : Int32))) SL) (ck (isO (q83.2) 616 12) ((f_X11_query 616 (xs (l4 + ((1 : Int32))).toNatClampNeg) (xs (l4 + ((2 : Int32))).toNatClampNeg) (q83.2)).bind (fun q86 => ck (isO (q86.2) 616 12) ((f_X11_thrown 616 (q86.2)).bind (fun q88 => if (q88.1) = (q83.1) then (if (q83.1) = (0) then (ck (isO (q88.2) 671 24) (ck (inR ((0 : Int32)) (zL (q88.2) 671)) (if (lg_cmp (zX (q88.2) 671 ((0 : Int32)).toNatClampNeg) ((q86.1).toInt64)) = (0) then (f_L_law_462 SL xs K 1 8 616 671 l4 (q88.2)) else (some ((0 : Int32), q88.2))))) else (f_L_law_462 SL xs K 1 8 616 671 l4 (q88.2))) else (some ((0 : Int32), q88.2)))))))))))
def lw7 (SL : Nat) (xs : Nat → Int32) (K : KT) (l4 : Int32) (h : Hp) : Option (Int32 × Hp) := ck (inR (l4 + ((1 : Int32))) SL) (ck (isO h 8 11) ((f_X10_poll 8 (xs (l4 + ((1 : Int32))).toNatClampNeg) h).bind (fun q97 => ck (inR (l4 + ((1 : Int32))) SL) (ck (isO (q97.2) 616 12) ((f_X11_poll 616 (xs (l4 + ((1 : Int32))).toNatClampNeg) (q97.2)).bind (fun q100 => if (q97.1) = (q100.1) then (f_L_law_1085 SL xs K 1 8 616 671 l4 (q100.2)) else (some ((0 : Int32), q100.2))))))))
def lw8 (SL : Nat) (xs : Nat → Int32) (K : KT) (l4 : Int32) (h : Hp) : Option (Int32 × Hp) := ck (inR (l4 + ((1 : Int32))) SL) (ck (isO h 8 11) ((f_X10_beat 8 (xs (l4 + ((1 : Int32))).toNatClampNeg) h).bind (fun q105 => ck (inR (l4 + ((1 : Int32))) SL) (ck (isO (q105.2) 616 12) ((f_X11_beat 616 (xs (l4 + ((1 : Int32))).toNatClampNeg) (q105.2)).bind (fun q108 => if (q105.1) = (q108.1) then (f_L_law_1085 SL xs K 1 8 616 671 l4 (q108.2)) else (some ((0 : Int32), q108.2))))))))
def lw9 (SL : Nat) (xs : Nat → Int32) (K : KT) (l4 : Int32) (h : Hp) : Option (Int32 × Hp) := ck (inR (l4 + ((1 : Int32))) SL) (ck (inR (l4 + ((2 : Int32))) SL) (ck (isO h 8 11) ((f_X10_finish 8 (xs (l4 + ((1 : Int32))).toNatClampNeg) (xs (l4 + ((2 : Int32))).toNatClampNeg) h).bind (fun q114 => ck (inR (l4 + ((1 : Int32))) SL) (ck (inR (l4 + ((2 : Int32))) SL) (ck (isO (q114.2) 616 12) ((f_X11_finish 616 (xs (l4 + ((1 : Int32))).toNatClampNeg) (xs (l4 + ((2 : Int32))).toNatClampNeg) (q114.2)).bind (fun q118 => if (q114.1) = (q118.1) then (f_L_law_1085 SL xs K 1 8 616 671 l4 (q118.2)) else (some ((0 : Int32), q118.2))))))))))
def lw10 (SL : Nat) (xs : Nat → Int32) (K : KT) (l4 : Int32) (h : Hp) : Option (Int32 × Hp) := ck (inR (l4 + ((1 : Int32))) SL) (ck (isO h 8 11) ((f_X10_fail 8 (xs (l4 + ((1 : Int32))).toNatClampNeg) h).bind (fun q123 => ck (inR (l4 + ((1 : Int32))) SL) (ck (isO (q123.2) 616 12) ((f_X11_fail 616 (xs (l4 + ((1 : Int32))).toNatClampNeg) (q123.2)).bind (fun q126 => if (q123.1) = (q126.1) then (f_L_law_1085 SL xs K 1 8 616 671 l4 (q126.2)) else (some ((0 : Int32), q126.2))))))))
def lw11 (SL : Nat) (xs : Nat → Int32) (K : KT) (l4 : Int32) (h : Hp) : Option (Int32 × Hp) := ck (inR (l4 + ((1 : Int32))) SL) (ck (inR (l4 + ((2 : Int32))) SL) (ck (isO h 8 11) ((f_X10_task 8 (xs (l4 + ((1 : Int32))).toNatClampNeg) (xs (l4 + ((2 : Int32))).toNatClampNeg) h).bind (fun q132 => ck (inR (l4 + ((1 : Int32))) SL) (ck (inR (l4 + ((2 : Int32))) SL) (ck (isO (q132.2) 616 12) ((f_X11_task 616 (xs (l4 + ((1 : Int32))).toNatClampNeg) (xs (l4 + ((2 : Int32))).toNatClampNeg) (q132.2)).bind (fun q136 => if (q132.1) = (q136.1) then (f_L_law_1085 SL xs K 1 8 616 671 l4 (q136.2)) else (some ((0 : Int32), q136.2))))))))))
def lw12 (SL : Nat) (xs : Nat → Int32) (K : KT) (l4 : Int32) (h : Hp) : Option (Int32 × Hp) := ck (inR (l4 + ((1 : Int32))) SL) ((f_L_tick 8 (xs (l4 + ((1 : Int32))).toNatClampNeg) 671 h).bind (fun q141 => ck (inR (l4 + ((1 : Int32))) SL) (ck (isO (q141.2) 616 12) ((f_X11_tick 616 (xs (l4 + ((1 : Int32))).toNatClampNeg) (q141.2)).bind (fun q143 => ck (isO (q143.2) 616 12) ((f_X11_thrown 616 (q143.2)).bind (fun q145 => if (q145.1) = (q141.1) then (if (q141.1) = (0) then (ck (isO (q145.2) 671 24) (ck (inR ((0 : Int32)) (zL (q145.2) 671)) (if (lg_cmp (zX (q145.2) 671 ((0 : Int32)).toNatClampNeg) ((q143.1).toInt64)) = (0) then (f_L_law_667 SL xs K 1 8 616 671 l4 (q145.2)) else (some ((0 : Int32), q145.2))))) else (f_L_law_667 SL xs K 1 8 616 671 l4 (q145.2))) else (some ((0 : Int32), q145.2)))))))))
def lw13 (SL : Nat) (xs : Nat → Int32) (K : KT) (l4 : Int32) (h : Hp) : Option (Int32 × Hp) := ck (inR (l4 + ((1 : Int32))) SL) (ck (inR (l4 + ((2 : Int32))) SL) (ck (isO h 8 11) ((f_X10_replicas 8 (xs (l4 + ((1 : Int32))).toNatClampNeg) (xs (l4 + ((2 : Int32))).toNatClampNeg) h).bind (fun q155 => ck (inR (l4 + ((1 : Int32))) SL) (ck (inR (l4 + ((2 : Int32))) SL) (ck (isO (q155.2) 616 12) ((f_X11_replicas 616 (xs (l4 + ((1 : Int32))).toNatClampNeg) (xs (l4 + ((2 : Int32))).toNatClampNeg) (q155.2)).bind (fun q159 => if (q155.1) = (q159.1) then (f_L_law_1085 SL xs K 1 8 616 671 l4 (q159.2)) else (some ((0 : Int32), q159.2))))))))))
def lw14 (SL : Nat) (xs : Nat → Int32) (K : KT) (l4 : Int32) (h : Hp) : Option (Int32 × Hp) := ck (inR (l4 + ((1 : Int32))) SL) (ck (inR (l4 + ((2 : Int32))) SL) (ck (inR (l4 + ((3 : Int32))) SL) (if (xs (l4 + ((3 : Int32))).toNatClampNeg) = (0) then (f_L_law_734 SL xs K 8 (xs (l4 + ((1 : Int32))).toNatClampNeg) (xs (l4 + ((2 : Int32))).toNatClampNeg) ((0 : Int32)) 1 8 616 671 l4 h) else (f_L_law_734 SL xs K 8 (xs (l4 + ((1 : Int32))).toNatClampNeg) (xs (l4 + ((2 : Int32))).toNatClampNeg) ((1 : Int32)) 1 8 616 671 l4 h))))
def lw15 (SL : Nat) (xs : Nat → Int32) (K : KT) (l4 : Int32) (h : Hp) : Option (Int32 × Hp) := ck (inR (l4 + ((1 : Int32))) SL) (ck (inR (l4 + ((2 : Int32))) SL) (ck (inR (l4 + ((3 : Int32))) SL) (ck (isO h 8 11) ((f_X10_fuse 8 (xs (l4 + ((1 : Int32))).toNatClampNeg) (xs (l4 + ((2 : Int32))).toNatClampNeg) (xs (l4 + ((3 : Int32))).toNatClampNeg) h).bind (fun q171 => ck (inR (l4 + ((1 : Int32))) SL) (ck (inR (l4 + ((2 : Int32))) SL) (ck (inR (l4 + ((3 : Int32))) SL) (ck (isO (q171.2) 616 12) ((f_X11_fuse 616 (xs (l4 + ((1 : Int32))).toNatClampNeg) (xs (l4 + ((2 : Int32))).toNatClampNeg) (xs (l4 + ((3 : Int32))).toNatClampNeg) (q171.2)).bind (fun q176 => if (q171.1) = (q176.1) then (f_L_law_1085 SL xs K 1 8 616 671 l4 (q176.2)) else (some ((0 : Int32), q176.2))))))))))))
def lw16 (SL : Nat) (xs : Nat → Int32) (K : KT) (l4 : Int32) (h : Hp) : Option (Int32 × Hp) := ck (inR (l4 + ((1 : Int32))) SL) (ck (inR (l4 + ((2 : Int32))) SL) (ck (isO h 8 11) ((f_X10_workflow 8 (xs (l4 + ((1 : Int32))).toNatClampNeg) (xs (l4 + ((2 : Int32))).toNatClampNeg) h).bind (fun q182 => ck (inR (l4 + ((1 : Int32))) SL) (ck (inR (l4 + ((2 : Int32))) SL) (ck (isO (q182.2) 616 12) ((f_X11_workflow 616 (xs (l4 + ((1 : Int32))).toNatClampNeg) (xs (l4 + ((2 : Int32))).toNatClampNeg) (q182.2)).bind (fun q186 => if (q182.1) = (q186.1) then (f_L_law_1085 SL xs K 1 8 616 671 l4 (q186.2)) else (some ((0 : Int32), q186.2))))))))))
def lw17 (SL : Nat) (xs : Nat → Int32) (K : KT) (l4 : Int32) (h : Hp) : Option (Int32 × Hp) := ck (inR (l4 + ((1 : Int32))) SL) (ck (inR (l4 + ((2 : Int32))) SL) (ck (inR (l4 + ((3 : Int32))) SL) ((f_L_event 8 (xs (l4 + ((1 : Int32))).toNatClampNeg) (xs (l4 + ((2 : Int32))).toNatClampNeg) (xs (l4 + ((3 : Int32))).toNatClampNeg) 671 h).bind (fun q193 => ck (inR (l4 + ((1 : Int32))) SL) (ck (inR (l4 + ((2 : Int32))) SL) (ck (inR (l4 + ((3 : Int32))) SL) (ck (isO (q193.2) 616 12) ((f_X11_event_ 616 (xs (l4 + ((1 : Int32))).toNatClampNeg) (xs (l4 + ((2 : Int32))).toNatClampNeg) (xs (l4 + ((3 : Int32))).toNatClampNeg) (q193.2)).bind (fun q197 => ck (isO (q197.2) 616 12) ((f_X11_thrown 616 (q197.2)).bind (fun q199 => if (q199.1) = (q193.1) then (if (q193.1) = (0) then (ck (isO (q199.2) 671 24) (ck (inR ((0 : Int32)) (zL (q199.2) 671)) (if (lg_cmp (zX (q199.2) 671 ((0 : Int32)).toNatClampNeg) ((q197.1).toInt64)) = (0) then (f_L_law_935 SL xs K 1 8 616 671 l4 (q199.2)) else (some ((0 : Int32), q199.2))))) else (f_L_law_935 SL xs K 1 8 616 671 l4 (q199.2))) else (some ((0 : Int32), q199.2)))))))))))))
def lw18 (SL : Nat) (xs : Nat → Int32) (K : KT) (l4 : Int32) (h : Hp) : Option (Int32 × Hp) := ck (inR (l4 + ((1 : Int32))) SL) (ck (inR (l4 + ((2 : Int32))) SL) (ck (isO h 8 11) ((f_X10_shard 8 (xs (l4 + ((1 : Int32))).toNatClampNeg) (xs (l4 + ((2 : Int32))).toNatClampNeg) h).bind (fun q209 => ck (inR (l4 + ((1 : Int32))) SL) (ck (inR (l4 + ((2 : Int32))) SL) (ck (isO (q209.2) 616 12) ((f_X11_shard 616 (xs (l4 + ((1 : Int32))).toNatClampNeg) (xs (l4 + ((2 : Int32))).toNatClampNeg) (q209.2)).bind (fun q213 => if (q209.1) = (q213.1) then (f_L_law_1085 SL xs K 1 8 616 671 l4 (q213.2)) else (some ((0 : Int32), q213.2))))))))))
def lw19 (SL : Nat) (xs : Nat → Int32) (K : KT) (l4 : Int32) (h : Hp) : Option (Int32 × Hp) := ck (inR (l4 + ((1 : Int32))) SL) (ck (inR (l4 + ((2 : Int32))) SL) (ck (inR (l4 + ((3 : Int32))) SL) (ck (isO h 8 11) ((f_X10_replica 8 (xs (l4 + ((1 : Int32))).toNatClampNeg) (xs (l4 + ((2 : Int32))).toNatClampNeg) (xs (l4 + ((3 : Int32))).toNatClampNeg) h).bind (fun q220 => ck (inR (l4 + ((1 : Int32))) SL) (ck (inR (l4 + ((2 : Int32))) SL) (ck (inR (l4 + ((3 : Int32))) SL) (ck (isO (q220.2) 616 12) ((f_X11_replica 616 (xs (l4 + ((1 : Int32))).toNatClampNeg) (xs (l4 + ((2 : Int32))).toNatClampNeg) (xs (l4 + ((3 : Int32))).toNatClampNeg) (q220.2)).bind (fun q225 => if (q220.1) = (q225.1) then (f_L_law_1085 SL xs K 1 8 616 671 l4 (q225.2)) else (some ((0 : Int32), q225.2))))))))))))
def lw20 (SL : Nat) (xs : Nat → Int32) (K : KT) (l4 : Int32) (h : Hp) : Option (Int32 × Hp) := ck (inR (l4 + ((1 : Int32))) SL) (ck (inR (l4 + ((2 : Int32))) SL) (ck (inR (l4 + ((3 : Int32))) SL) (ck (inR (l4 + ((4 : Int32))) SL) (ck (isO h 8 11) ((f_X10_disk 8 (xs (l4 + ((1 : Int32))).toNatClampNeg) (xs (l4 + ((2 : Int32))).toNatClampNeg) (xs (l4 + ((3 : Int32))).toNatClampNeg) (xs (l4 + ((4 : Int32))).toNatClampNeg) h).bind (fun q233 => ck (inR (l4 + ((1 : Int32))) SL) (ck (inR (l4 + ((2 : Int32))) SL) (ck (inR (l4 + ((3 : Int32))) SL) (ck (inR (l4 + ((4 : Int32))) SL) (ck (isO (q233.2) 616 12) ((f_X11_disk 616 (xs (l4 + ((1 : Int32))).toNatClampNeg) (xs (l4 + ((2 : Int32))).toNatClampNeg) (xs (l4 + ((3 : Int32))).toNatClampNeg) (xs (l4 + ((4 : Int32))).toNatClampNeg) (q233.2)).bind (fun q239 => if (q233.1) = (q239.1) then (f_L_law_1085 SL xs K 1 8 616 671 l4 (q239.2)) else (some ((0 : Int32), q239.2))))))))))))))
theorem law_unf (SL : Nat) (xs : Nat → Int32) (n : Nat) (l4 : Int32) (h : Hp) : f_L_law_23 SL xs (n + 1) 1 8 616 671 l4 h = (if nI SL - 5 < l4 then some (1, h) else ck (inR l4 SL) ((fun kd : Int32 => if kd = (0 : Int32) then lw0 SL xs (f_L_law_23 SL xs n) l4 h else (if kd = (1 : Int32) then lw1 SL xs (f_L_law_23 SL xs n) l4 h else (if kd = (2 : Int32) then lw2 SL xs (f_L_law_23 SL xs n) l4 h else (if kd = (3 : Int32) then lw3 SL xs (f_L_law_23 SL xs n) l4 h else (if kd = (4 : Int32) then lw4 SL xs (f_L_law_23 SL xs n) l4 h else (if kd = (5 : Int32) then lw5 SL xs (f_L_law_23 SL xs n) l4 h else (if kd = (6 : Int32) then lw6 SL xs (f_L_law_23 SL xs n) l4 h else (if kd = (7 : Int32) then lw7 SL xs (f_L_law_23 SL xs n) l4 h else (if kd = (8 : Int32) then lw8 SL xs (f_L_law_23 SL xs n) l4 h else (if kd = (9 : Int32) then lw9 SL xs (f_L_law_23 SL xs n) l4 h else (if kd = (10 : Int32) then lw10 SL xs (f_L_law_23 SL xs n) l4 h else (if kd = (11 : Int32) then lw11 SL xs (f_L_law_23 SL xs n) l4 h else (if kd = (12 : Int32) then lw12 SL xs (f_L_law_23 SL xs n) l4 h else (if kd = (13 : Int32) then lw13 SL xs (f_L_law_23 SL xs n) l4 h else (if kd = (14 : Int32) then lw14 SL xs (f_L_law_23 SL xs n) l4 h else (if kd = (15 : Int32) then lw15 SL xs (f_L_law_23 SL xs n) l4 h else (if kd = (16 : Int32) then lw16 SL xs (f_L_law_23 SL xs n) l4 h else (if kd = (17 : Int32) then lw17 SL xs (f_L_law_23 SL xs n) l4 h else (if kd = (18 : Int32) then lw18 SL xs (f_L_law_23 SL xs n) l4 h else (if kd = (19 : Int32) then lw19 SL xs (f_L_law_23 SL xs n) l4 h else (if kd = (20 : Int32) then lw20 SL xs (f_L_law_23 SL xs n) l4 h else (f_L_law_1085 SL xs (f_L_law_23 SL xs n) 1 8 616 671 l4 h)))))))))))))))))))))) (xs l4.toNatClampNeg &&& 31))) := by
  conv => lhs; unfold f_L_law_23
  rw [ck_yes rfl]
  rfl
/-! calls that are not alike -/
theorem chs_len (w : Int64) : ∀ n, (chs w n).length = n
  | 0 => rfl
  | n + 1 => by show (chs w n).length + 1 = _; rw [chs_len w n]
theorem typ_len (T : List Int32) (w : Int64) (n : Int32) : (typ T w n).2.length ≤ T.length + 8 := by
  unfold typ
  by_cases c1 : n < 1
  · rw [if_pos c1]; show T.length ≤ _; omega
  rw [if_neg c1]
  by_cases c2 : 8 < n
  · rw [if_pos c2]; show T.length ≤ _; omega
  rw [if_neg c2]
  by_cases c3 : nI T.length + n ≤ 300
  · rw [if_pos c3]
    obtain ⟨m, m1, m2, m3⟩ := int18 c1 c2
    rw [m3, zi_nat (by omega)]
    by_cases c4 : okA w m 0 = true
    · rw [if_pos c4]
      show (T ++ chs w m).length ≤ _
      rw [List.length_append, chs_len]; omega
    · rw [if_neg c4]; show T.length ≤ _; omega
  · rw [if_neg c3]; show T.length ≤ _; omega
section Ls
variable {n : Nat} {vs : Nat → List Prg} {c : Nat} {TX : List (Nat × Nat × Nat × Prg)} {K tk : Nat} {T : List Int32} {fa : Int32} {St : Nat} {W : Wld} {own : Nat → Nat} {u : Nat → Nat → Nat} {v : Nat → Nat} {h : Hp}
theorem L_type (L : LSx n vs c TX K tk T fa St W own u v h) (w : Int64) (k : Int32) : ∃ r h1 h2, f_X10_type 8 w k h = some (r, h1) ∧ isO h1 616 12 ∧ f_X11_type 616 w k h1 = some (r, h2) ∧ LSt (n + 1) h2 := by
  obtain ⟨⟨C, R, X⟩, o, vv, bb, -⟩ := id L
  obtain ⟨h1, own1, u1, v1, x1, C1, a1⟩ := c_type C w k
  have sm := sameR.of C.1.1.1 C.1.1.2.1 a1.2.1
  obtain ⟨h2, y1, y2, y3, y4⟩ := w_type (X.onC sm) (R.onC sm) w k
  refine ⟨_, h1, h2, x1, RF_o (X.onC sm).1.1, y1, L.fin C1 (a1.o C.1.1.1 o) ?_ ?_ y3 y2 y4 (fun a j z => by unfold tyR at z; omega) vv ⟨?_, fun p hp => ?_⟩⟩
  · have := a1.2.2.1; omega
  · have := a1.2.2.2; omega
  · obtain ⟨⟨b1, b2, b3, b4, b5⟩, -⟩ := bb
    have := typ_len T w k
    exact ⟨by omega, by omega, by omega, by omega, by omega⟩
  · have := bb.2 p hp; omega
theorem L_fault (L : LSx n vs c TX K tk T fa St W own u v h) : ∃ r h2, f_X10_fault 8 h = some (r, h) ∧ f_X11_fault 616 h = some (r, h2) ∧ LSt (n + 1) h2 := by
  obtain ⟨⟨C, R, X⟩, o, vv, bb, -⟩ := id L
  obtain ⟨h2, y1, y2, y3, y4⟩ := w_fault X R
  refine ⟨_, h2, c_fault C, y1, L.fin C o (by omega) (by omega) y3 y2 y4 (fun a j z => by omega) vv ⟨?_, fun p hp => ?_⟩⟩
  · obtain ⟨⟨b1, b2, b3, b4, b5⟩, -⟩ := bb
    exact ⟨by omega, by omega, by omega, by omega, by omega⟩
  · have := bb.2 p hp; omega
theorem L_poll (L : LSx n vs c TX K tk T fa St W own u v h) (hn : n < 512) (kind : Int32) : ∃ r h1 h2, f_X10_poll 8 kind h = some (r, h1) ∧ isO h1 616 12 ∧ f_X11_poll 616 kind h1 = some (r, h2) ∧ LSt (n + 1) h2 := by
  obtain ⟨⟨C, R, X⟩, o, vv, bb, -⟩ := id L
  obtain ⟨⟨b1, b2, b3, b4, b5⟩, b6⟩ := bb
  obtain ⟨p1, p2⟩ := c_poll (K := K) vv.1 R.S C.1 kind C.2.2.2.1
  cases e : pollN W (nI c) kind 64 with
  | none =>
    obtain ⟨h1, h2, x1, x2, x3, x4⟩ := L_step L (F10 := f_X10_poll 8 kind h) (F11 := fun h1 => f_X11_poll 616 kind h1) (r := -1) (W1 := W) (by rw [p1 e]; exact aC.id C.1 _) (fun h1 R1 => (w_poll (by omega) (by omega) R1 kind).1 e) (by omega)
    exact ⟨_, h1, h2, x1, x2, x3, x4⟩
  | some w =>
    obtain ⟨h1, own1, u1, v1, x1, x2, x3, x4⟩ := p2 w e
    have w0 := C.1.1.1
    have fI : cf (fun a j => a = 8 ∧ j = 1104) h (pI h 1104 8 (nI (tk + 1))) := cf_pI ⟨rfl, rfl⟩
    have CI : CL vs (nI c) (pI h 1104 8 (nI (tk + 1))) own u v W T fa (tk + 1) := by
      obtain ⟨c1, c2, c3, c4, c5⟩ := id C
      exact ⟨c1.lowT fI (fun a j z => by omega), c2.on fI (fun j _ _ => by omega) (fun j => by omega), (fI.I c2.1.1 (by omega)).trans c3, pI_at _ _ _ _, c5.on c1.1.2.2.1 fI (fun p hp => by omega)⟩
    obtain ⟨C1, a1⟩ := CI.actW x2 x3
    have ff : cf (fun a _ => own a ≠ 101) h h1 := (fI.mono (fun a j _ z => by rw [z.1, ow100 w0 (by omega)]; omega)).tr a1.2.1
    have sm := sameR.of w0 C.1.1.2.1 ff
    obtain ⟨h2, y1, y2, y3, y4⟩ := (w_poll (K := K) (by omega) (by omega) (R.onC sm) kind).2 w e
    refine ⟨_, h1, h2, x1, RF_o (X.onC sm).1.1, y1, L.fin C1 (a1.o w0 o) ?_ ?_ y3 ((X.onC sm).tp y4) y4 tpS_in vv ⟨⟨by omega, by omega, by omega, by omega, by omega⟩, fun p hp => ?_⟩⟩
    · have := a1.2.2.1
      have : zs (pI h 1104 8 (nI (tk + 1))) = zs h := zs_pI9 _ _ _ _
      omega
    · have := a1.2.2.2
      have : zn (pI h 1104 8 (nI (tk + 1))) = zn h := zn_pI _ _ _ _
      omega
    · have := b6 p hp; omega
/-- what a catching call leaves -/
def thH (q : Int32 × Int32) (h : Hp) : Hp := if q.1 = 0 then pX h 671 0 q.2.toInt64 else pN h 40 6
theorem thH_f (q : Int32 × Int32) (h : Hp) : cf (fun a _ => a = 671) h (thH q h) := by
  unfold thH
  by_cases e : q.1 = 0
  · rw [if_pos e]; exact cf_pX rfl
  · rw [if_neg e]; exact cf_pN h 40 6
theorem thH_z (q : Int32 × Int32) (h : Hp) : zs (thH q h) ≤ zs h + 6 ∧ zn (thH q h) ≤ zn h + 1 := by
  unfold thH
  by_cases e : q.1 = 0
  · rw [if_pos e]; exact ⟨by show zs h ≤ _; omega, by show zn h ≤ _; omega⟩
  · rw [if_neg e]; exact ⟨Nat.le_refl _, Nat.le_refl _⟩
theorem thH_x {q : Int32 × Int32} (h : Hp) (e : q.1 = 0) : zX (thH q h) 671 0 = q.2.toInt64 := by
  unfold thH
  rw [if_pos e]
  show up2 (zX h) 671 0 q.2.toInt64 671 0 = _
  exact if_pos ⟨rfl, rfl⟩
theorem thH_s {h h1 : Hp} {own : Nat → Nat} (w : owS own) (hz : 672 ≤ zn h) (f : cf (fun a _ => own a ≠ 101) h h1) (q : Int32 × Int32) : sameR h (thH q h1) := by
  obtain ⟨s1, s2⟩ := sameR.of w hz f
  refine ⟨Nat.le_trans s1 (thH_f q h1).1, fun a g1 g2 => ?_⟩
  obtain ⟨a1, a2, a3⟩ := s2 a g1 g2
  have t := thH_f q h1
  have tt := t.2.1 a (by omega)
  refine ⟨tt.1.trans a1, tt.2.trans a2, fun j => ?_⟩
  obtain ⟨b1, b2, b3⟩ := a3 j
  have k : zI (thH q h1) j a = zI h1 j a ∧ zR (thH q h1) j a = zR h1 j a ∧ zE (thH q h1) a j = zE h1 a j := by
    unfold thH
    by_cases e : q.1 = 0
    · rw [if_pos e]; exact ⟨rfl, rfl, rfl⟩
    · rw [if_neg e]
      obtain ⟨d1, d2, -, d4, -, -⟩ := (cf_pN (S := fun _ _ => False) h1 40 6).2.2 a j (by omega) (fun z => z)
      exact ⟨d1, d2, d4⟩
  exact ⟨k.1.trans b1, k.2.1.trans b2, k.2.2.trans b3⟩
/-- a call that may throw -/
theorem L_thr {vs1 : Nat → List Prg} {c1 : Nat} {TX1 : List (Nat × Nat × Nat × Prg)} {T1 : List Int32} {fa1 : Int32} {St1 : Nat} {W1 : Wld} {own1 : Nat → Nat} {u1 : Nat → Nat → Nat} {v1 : Nat → Nat} {h1 : Hp} {F : Nat → Nat → Prop} {q : Int32 × Int32} (L : LSx n vs c TX K tk T fa St W own u v h) (C1 : CL vs1 (nI c1) h1 own1 u1 v1 W1 T1 fa1 tk) (a1 : acL h own u v h1 own1 u1 v1) {F11 : Hp → Option (Int32 × Hp)} (b : ∀ g, RT vs c TX K tk g W → RX vs TX g T fa St → ∃ h2, F11 g = some (q.2, h2) ∧ RT vs1 c1 TX1 K tk h2 W1 ∧ RX vs1 TX1 h2 T1 fa1 St1 ∧ frx F g h2 ∧ zI h2 1200 616 = q.1) (hF : ∀ a j, F a j → 616 ≤ a ∧ a < 671) (vv : vsOK vs1 ∧ vsDg vs1) (bb : (c1 ≤ 500 * (n + 1) ∧ 3 * St1 + T1.length ≤ 8 * (n + 1) ∧ TX1.length ≤ n + 1) ∧ ∀ p, p < 8 → (vs1 p).length ≤ n + 1) : ∃ h2, isO (thH q h1) 616 12 ∧ F11 (thH q h1) = some (q.2, h2) ∧ RF h2 ∧ zI h2 1200 616 = q.1 ∧ (isO h2 671 24 ∧ zL h2 671 = 1) ∧ (q.1 = 0 → zX h2 671 0 = q.2.toInt64) ∧ LSt (n + 1) h2 := by
  obtain ⟨⟨C, R, X⟩, o, -, ⟨⟨b1, b2, -⟩, -⟩, -⟩ := id L
  have w0 := C.1.1.1
  have sm := thH_s w0 C.1.1.2.1 a1.2.1 q
  obtain ⟨h2, y1, y2, y3, y4, y5⟩ := b (thH q h1) (R.onC sm) (X.onC sm)
  have o1 := a1.o w0 o
  have t := thH_f q h1
  have oT : isO (thH q h1) 671 24 ∧ zL (thH q h1) 671 = 1 := ⟨t.O o1.1, (t.L o1.1).trans o1.2⟩
  have CT := C1.onR t (fun a j _ z => by omega)
  obtain ⟨z1, z2⟩ := thH_z q h1
  have f2 := cf_frx y4
  refine ⟨h2, RF_o (X.onC sm).1.1, y1, y3.1.1, y5, ⟨f2.O oT.1, (f2.L oT.1).trans oT.2⟩, fun e => ?_, L.fin CT oT ?_ ?_ y2 y3 y4 hF vv ⟨⟨by omega, by omega, bb.1⟩, bb.2⟩⟩
  · rw [y4.1.2.2.2.2.2.2]; exact thH_x h1 e
  · have := a1.2.2.1; omega
  · have := a1.2.2.2; omega
end Ls
