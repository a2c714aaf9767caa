theorem bind_id {α : Type} (x : Option α) : x.bind (fun q => some q) = x := by cases x <;> rfl
theorem ko_0_0 : (nI 0 = (0 : Int32)) = True := eq_true (by decide)
theorem ko_0_1 : (nI 0 = (1 : Int32)) = False := eq_false (by decide)
theorem ko_0_2 : (nI 0 = (2 : Int32)) = False := eq_false (by decide)
theorem ko_0_3 : (nI 0 = (3 : Int32)) = False := eq_false (by decide)
theorem ko_0_4 : (nI 0 = (4 : Int32)) = False := eq_false (by decide)
theorem ko_0_5 : (nI 0 = (5 : Int32)) = False := eq_false (by decide)
theorem ko_0_6 : (nI 0 = (6 : Int32)) = False := eq_false (by decide)
theorem ko_0_7 : (nI 0 = (7 : Int32)) = False := eq_false (by decide)
theorem ko_0_8 : (nI 0 = (8 : Int32)) = False := eq_false (by decide)
theorem ko_0_9 : (nI 0 = (9 : Int32)) = False := eq_false (by decide)
theorem ko_0_10 : (nI 0 = (10 : Int32)) = False := eq_false (by decide)
theorem ko_0_11 : (nI 0 = (11 : Int32)) = False := eq_false (by decide)
theorem ko_0_12 : (nI 0 = (12 : Int32)) = False := eq_false (by decide)
theorem ko_0_13 : (nI 0 = (13 : Int32)) = False := eq_false (by decide)
theorem ko_1_0 : (nI 1 = (0 : Int32)) = False := eq_false (by decide)
theorem ko_1_1 : (nI 1 = (1 : Int32)) = True := eq_true (by decide)
theorem ko_1_2 : (nI 1 = (2 : Int32)) = False := eq_false (by decide)
theorem ko_1_3 : (nI 1 = (3 : Int32)) = False := eq_false (by decide)
theorem ko_1_4 : (nI 1 = (4 : Int32)) = False := eq_false (by decide)
theorem ko_1_5 : (nI 1 = (5 : Int32)) = False := eq_false (by decide)
theorem ko_1_6 : (nI 1 = (6 : Int32)) = False := eq_false (by decide)
theorem ko_1_7 : (nI 1 = (7 : Int32)) = False := eq_false (by decide)
theorem ko_1_8 : (nI 1 = (8 : Int32)) = False := eq_false (by decide)
theorem ko_1_9 : (nI 1 = (9 : Int32)) = False := eq_false (by decide)
theorem ko_1_10 : (nI 1 = (10 : Int32)) = False := eq_false (by decide)
theorem ko_1_11 : (nI 1 = (11 : Int32)) = False := eq_false (by decide)
theorem ko_1_12 : (nI 1 = (12 : Int32)) = False := eq_false (by decide)
theorem ko_1_13 : (nI 1 = (13 : Int32)) = False := eq_false (by decide)
theorem ko_2_0 : (nI 2 = (0 : Int32)) = False := eq_false (by decide)
theorem ko_2_1 : (nI 2 = (1 : Int32)) = False := eq_false (by decide)
theorem ko_2_2 : (nI 2 = (2 : Int32)) = True := eq_true (by decide)
theorem ko_2_3 : (nI 2 = (3 : Int32)) = False := eq_false (by decide)
theorem ko_2_4 : (nI 2 = (4 : Int32)) = False := eq_false (by decide)
theorem ko_2_5 : (nI 2 = (5 : Int32)) = False := eq_false (by decide)
theorem ko_2_6 : (nI 2 = (6 : Int32)) = False := eq_false (by decide)
theorem ko_2_7 : (nI 2 = (7 : Int32)) = False := eq_false (by decide)
theorem ko_2_8 : (nI 2 = (8 : Int32)) = False := eq_false (by decide)
theorem ko_2_9 : (nI 2 = (9 : Int32)) = False := eq_false (by decide)
theorem ko_2_10 : (nI 2 = (10 : Int32)) = False := eq_false (by decide)
theorem ko_2_11 : (nI 2 = (11 : Int32)) = False := eq_false (by decide)
theorem ko_2_12 : (nI 2 = (12 : Int32)) = False := eq_false (by decide)
theorem ko_2_13 : (nI 2 = (13 : Int32)) = False := eq_false (by decide)
theorem ko_3_0 : (nI 3 = (0 : Int32)) = False := eq_false (by decide)
theorem ko_3_1 : (nI 3 = (1 : Int32)) = False := eq_false (by decide)
theorem ko_3_2 : (nI 3 = (2 : Int32)) = False := eq_false (by decide)
theorem ko_3_3 : (nI 3 = (3 : Int32)) = True := eq_true (by decide)
theorem ko_3_4 : (nI 3 = (4 : Int32)) = False := eq_false (by decide)
theorem ko_3_5 : (nI 3 = (5 : Int32)) = False := eq_false (by decide)
theorem ko_3_6 : (nI 3 = (6 : Int32)) = False := eq_false (by decide)
theorem ko_3_7 : (nI 3 = (7 : Int32)) = False := eq_false (by decide)
theorem ko_3_8 : (nI 3 = (8 : Int32)) = False := eq_false (by decide)
theorem ko_3_9 : (nI 3 = (9 : Int32)) = False := eq_false (by decide)
theorem ko_3_10 : (nI 3 = (10 : Int32)) = False := eq_false (by decide)
theorem ko_3_11 : (nI 3 = (11 : Int32)) = False := eq_false (by decide)
theorem ko_3_12 : (nI 3 = (12 : Int32)) = False := eq_false (by decide)
theorem ko_3_13 : (nI 3 = (13 : Int32)) = False := eq_false (by decide)
theorem ko_4_0 : (nI 4 = (0 : Int32)) = False := eq_false (by decide)
theorem ko_4_1 : (nI 4 = (1 : Int32)) = False := eq_false (by decide)
theorem ko_4_2 : (nI 4 = (2 : Int32)) = False := eq_false (by decide)
theorem ko_4_3 : (nI 4 = (3 : Int32)) = False := eq_false (by decide)
theorem ko_4_4 : (nI 4 = (4 : Int32)) = True := eq_true (by decide)
theorem ko_4_5 : (nI 4 = (5 : Int32)) = False := eq_false (by decide)
theorem ko_4_6 : (nI 4 = (6 : Int32)) = False := eq_false (by decide)
theorem ko_4_7 : (nI 4 = (7 : Int32)) = False := eq_false (by decide)
theorem ko_4_8 : (nI 4 = (8 : Int32)) = False := eq_false (by decide)
theorem ko_4_9 : (nI 4 = (9 : Int32)) = False := eq_false (by decide)
theorem ko_4_10 : (nI 4 = (10 : Int32)) = False := eq_false (by decide)
theorem ko_4_11 : (nI 4 = (11 : Int32)) = False := eq_false (by decide)
theorem ko_4_12 : (nI 4 = (12 : Int32)) = False := eq_false (by decide)
theorem ko_4_13 : (nI 4 = (13 : Int32)) = False := eq_false (by decide)
theorem ko_5_0 : (nI 5 = (0 : Int32)) = False := eq_false (by decide)
theorem ko_5_1 : (nI 5 = (1 : Int32)) = False := eq_false (by decide)
theorem ko_5_2 : (nI 5 = (2 : Int32)) = False := eq_false (by decide)
theorem ko_5_3 : (nI 5 = (3 : Int32)) = False := eq_false (by decide)
theorem ko_5_4 : (nI 5 = (4 : Int32)) = False := eq_false (by decide)
theorem ko_5_5 : (nI 5 = (5 : Int32)) = True := eq_true (by decide)
theorem ko_5_6 : (nI 5 = (6 : Int32)) = False := eq_false (by decide)
theorem ko_5_7 : (nI 5 = (7 : Int32)) = False := eq_false (by decide)
theorem ko_5_8 : (nI 5 = (8 : Int32)) = False := eq_false (by decide)
theorem ko_5_9 : (nI 5 = (9 : Int32)) = False := eq_false (by decide)
theorem ko_5_10 : (nI 5 = (10 : Int32)) = False := eq_false (by decide)
theorem ko_5_11 : (nI 5 = (11 : Int32)) = False := eq_false (by decide)
theorem ko_5_12 : (nI 5 = (12 : Int32)) = False := eq_false (by decide)
theorem ko_5_13 : (nI 5 = (13 : Int32)) = False := eq_false (by decide)
theorem ko_6_0 : (nI 6 = (0 : Int32)) = False := eq_false (by decide)
theorem ko_6_1 : (nI 6 = (1 : Int32)) = False := eq_false (by decide)
theorem ko_6_2 : (nI 6 = (2 : Int32)) = False := eq_false (by decide)
theorem ko_6_3 : (nI 6 = (3 : Int32)) = False := eq_false (by decide)
theorem ko_6_4 : (nI 6 = (4 : Int32)) = False := eq_false (by decide)
theorem ko_6_5 : (nI 6 = (5 : Int32)) = False := eq_false (by decide)
theorem ko_6_6 : (nI 6 = (6 : Int32)) = True := eq_true (by decide)
theorem ko_6_7 : (nI 6 = (7 : Int32)) = False := eq_false (by decide)
theorem ko_6_8 : (nI 6 = (8 : Int32)) = False := eq_false (by decide)
theorem ko_6_9 : (nI 6 = (9 : Int32)) = False := eq_false (by decide)
theorem ko_6_10 : (nI 6 = (10 : Int32)) = False := eq_false (by decide)
theorem ko_6_11 : (nI 6 = (11 : Int32)) = False := eq_false (by decide)
theorem ko_6_12 : (nI 6 = (12 : Int32)) = False := eq_false (by decide)
theorem ko_6_13 : (nI 6 = (13 : Int32)) = False := eq_false (by decide)
theorem ko_7_0 : (nI 7 = (0 : Int32)) = False := eq_false (by decide)
theorem ko_7_1 : (nI 7 = (1 : Int32)) = False := eq_false (by decide)
theorem ko_7_2 : (nI 7 = (2 : Int32)) = False := eq_false (by decide)
theorem ko_7_3 : (nI 7 = (3 : Int32)) = False := eq_false (by decide)
theorem ko_7_4 : (nI 7 = (4 : Int32)) = False := eq_false (by decide)
theorem ko_7_5 : (nI 7 = (5 : Int32)) = False := eq_false (by decide)
theorem ko_7_6 : (nI 7 = (6 : Int32)) = False := eq_false (by decide)
theorem ko_7_7 : (nI 7 = (7 : Int32)) = True := eq_true (by decide)
theorem ko_7_8 : (nI 7 = (8 : Int32)) = False := eq_false (by decide)
theorem ko_7_9 : (nI 7 = (9 : Int32)) = False := eq_false (by decide)
theorem ko_7_10 : (nI 7 = (10 : Int32)) = False := eq_false (by decide)
theorem ko_7_11 : (nI 7 = (11 : Int32)) = False := eq_false (by decide)
theorem ko_7_12 : (nI 7 = (12 : Int32)) = False := eq_false (by decide)
theorem ko_7_13 : (nI 7 = (13 : Int32)) = False := eq_false (by decide)
theorem ko_8_0 : (nI 8 = (0 : Int32)) = False := eq_false (by decide)
theorem ko_8_1 : (nI 8 = (1 : Int32)) = False := eq_false (by decide)
theorem ko_8_2 : (nI 8 = (2 : Int32)) = False := eq_false (by decide)
theorem ko_8_3 : (nI 8 = (3 : Int32)) = False := eq_false (by decide)
theorem ko_8_4 : (nI 8 = (4 : Int32)) = False := eq_false (by decide)
theorem ko_8_5 : (nI 8 = (5 : Int32)) = False := eq_false (by decide)
theorem ko_8_6 : (nI 8 = (6 : Int32)) = False := eq_false (by decide)
theorem ko_8_7 : (nI 8 = (7 : Int32)) = False := eq_false (by decide)
theorem ko_8_8 : (nI 8 = (8 : Int32)) = True := eq_true (by decide)
theorem ko_8_9 : (nI 8 = (9 : Int32)) = False := eq_false (by decide)
theorem ko_8_10 : (nI 8 = (10 : Int32)) = False := eq_false (by decide)
theorem ko_8_11 : (nI 8 = (11 : Int32)) = False := eq_false (by decide)
theorem ko_8_12 : (nI 8 = (12 : Int32)) = False := eq_false (by decide)
theorem ko_8_13 : (nI 8 = (13 : Int32)) = False := eq_false (by decide)
theorem ko_9_0 : (nI 9 = (0 : Int32)) = False := eq_false (by decide)
theorem ko_9_1 : (nI 9 = (1 : Int32)) = False := eq_false (by decide)
theorem ko_9_2 : (nI 9 = (2 : Int32)) = False := eq_false (by decide)
theorem ko_9_3 : (nI 9 = (3 : Int32)) = False := eq_false (by decide)
theorem ko_9_4 : (nI 9 = (4 : Int32)) = False := eq_false (by decide)
theorem ko_9_5 : (nI 9 = (5 : Int32)) = False := eq_false (by decide)
theorem ko_9_6 : (nI 9 = (6 : Int32)) = False := eq_false (by decide)
theorem ko_9_7 : (nI 9 = (7 : Int32)) = False := eq_false (by decide)
theorem ko_9_8 : (nI 9 = (8 : Int32)) = False := eq_false (by decide)
theorem ko_9_9 : (nI 9 = (9 : Int32)) = True := eq_true (by decide)
theorem ko_9_10 : (nI 9 = (10 : Int32)) = False := eq_false (by decide)
theorem ko_9_11 : (nI 9 = (11 : Int32)) = False := eq_false (by decide)
theorem ko_9_12 : (nI 9 = (12 : Int32)) = False := eq_false (by decide)
theorem ko_9_13 : (nI 9 = (13 : Int32)) = False := eq_false (by decide)
theorem ko_10_0 : (nI 10 = (0 : Int32)) = False := eq_false (by decide)
theorem ko_10_1 : (nI 10 = (1 : Int32)) = False := eq_false (by decide)
theorem ko_10_2 : (nI 10 = (2 : Int32)) = False := eq_false (by decide)
theorem ko_10_3 : (nI 10 = (3 : Int32)) = False := eq_false (by decide)
theorem ko_10_4 : (nI 10 = (4 : Int32)) = False := eq_false (by decide)
theorem ko_10_5 : (nI 10 = (5 : Int32)) = False := eq_false (by decide)
theorem ko_10_6 : (nI 10 = (6 : Int32)) = False := eq_false (by decide)
theorem ko_10_7 : (nI 10 = (7 : Int32)) = False := eq_false (by decide)
theorem ko_10_8 : (nI 10 = (8 : Int32)) = False := eq_false (by decide)
theorem ko_10_9 : (nI 10 = (9 : Int32)) = False := eq_false (by decide)
theorem ko_10_10 : (nI 10 = (10 : Int32)) = True := eq_true (by decide)
theorem ko_10_11 : (nI 10 = (11 : Int32)) = False := eq_false (by decide)
theorem ko_10_12 : (nI 10 = (12 : Int32)) = False := eq_false (by decide)
theorem ko_10_13 : (nI 10 = (13 : Int32)) = False := eq_false (by decide)
theorem ko_11_0 : (nI 11 = (0 : Int32)) = False := eq_false (by decide)
theorem ko_11_1 : (nI 11 = (1 : Int32)) = False := eq_false (by decide)
theorem ko_11_2 : (nI 11 = (2 : Int32)) = False := eq_false (by decide)
theorem ko_11_3 : (nI 11 = (3 : Int32)) = False := eq_false (by decide)
theorem ko_11_4 : (nI 11 = (4 : Int32)) = False := eq_false (by decide)
theorem ko_11_5 : (nI 11 = (5 : Int32)) = False := eq_false (by decide)
theorem ko_11_6 : (nI 11 = (6 : Int32)) = False := eq_false (by decide)
theorem ko_11_7 : (nI 11 = (7 : Int32)) = False := eq_false (by decide)
theorem ko_11_8 : (nI 11 = (8 : Int32)) = False := eq_false (by decide)
theorem ko_11_9 : (nI 11 = (9 : Int32)) = False := eq_false (by decide)
theorem ko_11_10 : (nI 11 = (10 : Int32)) = False := eq_false (by decide)
theorem ko_11_11 : (nI 11 = (11 : Int32)) = True := eq_true (by decide)
theorem ko_11_12 : (nI 11 = (12 : Int32)) = False := eq_false (by decide)
theorem ko_11_13 : (nI 11 = (13 : Int32)) = False := eq_false (by decide)
theorem ko_12_0 : (nI 12 = (0 : Int32)) = False := eq_false (by decide)
theorem ko_12_1 : (nI 12 = (1 : Int32)) = False := eq_false (by decide)
theorem ko_12_2 : (nI 12 = (2 : Int32)) = False := eq_false (by decide)
theorem ko_12_3 : (nI 12 = (3 : Int32)) = False := eq_false (by decide)
theorem ko_12_4 : (nI 12 = (4 : Int32)) = False := eq_false (by decide)
theorem ko_12_5 : (nI 12 = (5 : Int32)) = False := eq_false (by decide)
theorem ko_12_6 : (nI 12 = (6 : Int32)) = False := eq_false (by decide)
theorem ko_12_7 : (nI 12 = (7 : Int32)) = False := eq_false (by decide)
theorem ko_12_8 : (nI 12 = (8 : Int32)) = False := eq_false (by decide)
theorem ko_12_9 : (nI 12 = (9 : Int32)) = False := eq_false (by decide)
theorem ko_12_10 : (nI 12 = (10 : Int32)) = False := eq_false (by decide)
theorem ko_12_11 : (nI 12 = (11 : Int32)) = False := eq_false (by decide)
theorem ko_12_12 : (nI 12 = (12 : Int32)) = True := eq_true (by decide)
theorem ko_12_13 : (nI 12 = (13 : Int32)) = False := eq_false (by decide)
theorem ko_13_0 : (nI 13 = (0 : Int32)) = False := eq_false (by decide)
theorem ko_13_1 : (nI 13 = (1 : Int32)) = False := eq_false (by decide)
theorem ko_13_2 : (nI 13 = (2 : Int32)) = False := eq_false (by decide)
theorem ko_13_3 : (nI 13 = (3 : Int32)) = False := eq_false (by decide)
theorem ko_13_4 : (nI 13 = (4 : Int32)) = False := eq_false (by decide)
theorem ko_13_5 : (nI 13 = (5 : Int32)) = False := eq_false (by decide)
theorem ko_13_6 : (nI 13 = (6 : Int32)) = False := eq_false (by decide)
theorem ko_13_7 : (nI 13 = (7 : Int32)) = False := eq_false (by decide)
theorem ko_13_8 : (nI 13 = (8 : Int32)) = False := eq_false (by decide)
theorem ko_13_9 : (nI 13 = (9 : Int32)) = False := eq_false (by decide)
theorem ko_13_10 : (nI 13 = (10 : Int32)) = False := eq_false (by decide)
theorem ko_13_11 : (nI 13 = (11 : Int32)) = False := eq_false (by decide)
theorem ko_13_12 : (nI 13 = (12 : Int32)) = False := eq_false (by decide)
theorem ko_13_13 : (nI 13 = (13 : Int32)) = True := eq_true (by decide)
theorem ko_14_0 : (nI 14 = (0 : Int32)) = False := eq_false (by decide)
theorem ko_14_1 : (nI 14 = (1 : Int32)) = False := eq_false (by decide)
theorem ko_14_2 : (nI 14 = (2 : Int32)) = False := eq_false (by decide)
theorem ko_14_3 : (nI 14 = (3 : Int32)) = False := eq_false (by decide)
theorem ko_14_4 : (nI 14 = (4 : Int32)) = False := eq_false (by decide)
theorem ko_14_5 : (nI 14 = (5 : Int32)) = False := eq_false (by decide)
theorem ko_14_6 : (nI 14 = (6 : Int32)) = False := eq_false (by decide)
theorem ko_14_7 : (nI 14 = (7 : Int32)) = False := eq_false (by decide)
theorem ko_14_8 : (nI 14 = (8 : Int32)) = False := eq_false (by decide)
theorem ko_14_9 : (nI 14 = (9 : Int32)) = False := eq_false (by decide)
theorem ko_14_10 : (nI 14 = (10 : Int32)) = False := eq_false (by decide)
theorem ko_14_11 : (nI 14 = (11 : Int32)) = False := eq_false (by decide)
theorem ko_14_12 : (nI 14 = (12 : Int32)) = False := eq_false (by decide)
theorem ko_14_13 : (nI 14 = (13 : Int32)) = False := eq_false (by decide)
/-! ONE STEP -/
theorem w_value0 {w : Nat} {x : Int32} {h : Hp} : f_X11_valueOf 616 (nI w) 0 x h = some (x, h) := by
  simp only [f_X11_valueOf, if_true]
theorem w_value1 {h : Hp} (H : RF h) {w v : Nat} (hw : w < 64) (hv : v < 8) : f_X11_valueOf 616 (nI w) 1 (nI v) h = some (zE h 653 (8 * w + v), h) := by
  have n8 : (nI (8 * w + v)).toNatClampNeg = 8 * w + v := zi_nat (by omega)
  have g8 : ¬ nI (8 * w + v) < 0 := zi_neg (by omega)
  have l8 : ¬ 512 ≤ 8 * w + v := by omega
  simp only [f_X11_valueOf, o10, o00, bh, isO, inR, ck_true, bind_some9, Nat.reduceLeDiff, Nat.reduceEqDiff, and_self, and_true, true_and, false_and, and_false, not_false_eq_true, not_true_eq_false, or_self, or_false, false_or, if_true, if_false, reduceIte, RF_o H, RF_1245 H, RO_653 H, RL_653 H, zR_pE, zT_pE, zL_pE, zn_pE, zE_pE, zI_pE, zR_pI, zT_pI, zL_pI, zn_pI, zE_pI, zI_pI, zi_8, n8, g8, l8]
/-- a value: b tells if x is a place of the locals -/
def vlOK (b x : Int32) : Prop := b = 0 ∨ ∃ v, v < 8 ∧ b = 1 ∧ x = nI v
def vlOf (V : Nat → Int32) (b x : Int32) : Int32 := if b = 0 then x else V x.toNatClampNeg
theorem w_value {h : Hp} (H : RF h) {w : Nat} {b x : Int32} {V : Nat → Int32} (hw : w < 64) (hV : ∀ v, v < 8 → zE h 653 (8 * w + v) = V v) (q : vlOK b x) : f_X11_valueOf 616 (nI w) b x h = some (vlOf V b x, h) := by
  rcases q with rfl | ⟨v, hv, rfl, rfl⟩
  · rw [w_value0]; rfl
  · rw [w_value1 H hw hv, hV v hv]
    unfold vlOf
    rw [if_neg (by decide), zi_nat (by omega)]
/-- where a step is: text t, its steps' number L and beginning B, the step's place there p, walked g -/
def stCtx (h : Hp) (w t L B p g it : Nat) (V : Nat → Int32) : Prop := w < 64 ∧ t < 4100 ∧ B + p < 11100 ∧ p < L ∧ L ≤ 60 ∧ g < 200 ∧ it < 8 ∧ zE h 650 w = nI t ∧ zE h 621 t = nI L ∧ zE h 620 t = nI B ∧ zI h 1263 616 = nI p ∧ zI h 1267 616 = nI g ∧ zE h 625 (B + p) = nI it ∧ vlOK (zE h 626 (B + p)) (zE h 627 (B + p)) ∧ vlOK (zE h 628 (B + p)) (zE h 629 (B + p)) ∧ ∀ v, v < 8 → zE h 653 (8 * w + v) = V v
def stH (h : Hp) (p g : Nat) : Hp := pI (pI h 1267 616 (nI (g + 1))) 1263 616 (nI (p + 1))
theorem RF_pI {h : Hp} (H : RF h) (f a : Nat) (v : Int32) : RF (pI h f a v) := H
theorem RF_pE {h : Hp} (H : RF h) (f a : Nat) (v : Int32) : RF (pE h f a v) := H
theorem w_go_0 {h : Hp} (H : RF h) {w t L B p g it : Nat} {V : Nat → Int32} (q : stCtx h w t L B p g it V) (ho : zE h 624 (B + p) = nI 0) : f_X11_goesStep 616 (nI w) h = some (pE (stH h p g) 653 (8 * w + it) (vlOf V (zE h 626 (B + p)) (zE h 627 (B + p)))) := by
  obtain ⟨hw, ht, hB, hp, hL, hg, hi, q1, q2, q3, q4, q5, q6, q7, q8, q9⟩ := q
  have nx : (nI w).toNatClampNeg = w := zi_nat (by omega)
  have gx : ¬ nI w < 0 := zi_neg (by omega)
  have lx : ¬ 64 ≤ w := by omega
  have nt : (nI t).toNatClampNeg = t := zi_nat (by omega)
  have gt : ¬ nI t < 0 := zi_neg (by omega)
  have lt : ¬ 4100 ≤ t := by omega
  have nk : (nI (B + p)).toNatClampNeg = B + p := zi_nat (by omega)
  have gk : ¬ nI (B + p) < 0 := zi_neg (by omega)
  have lk : ¬ 11100 ≤ B + p := by omega
  have n8 : (nI (8 * w + it)).toNatClampNeg = 8 * w + it := zi_nat (by omega)
  have g8 : ¬ nI (8 * w + it) < 0 := zi_neg (by omega)
  have l8 : ¬ 512 ≤ 8 * w + it := by omega
  have c1 : ¬ nI p = nI L := fun e => absurd ((zi_eq (by omega) (by omega)).mp e) (by omega)
  have c2 : ¬ nI g = (200 : Int32) := fun e => absurd ((zi_eq (b := 200) (by omega) (by omega)).mp e) (by omega)
  have v1 := w_value (h := stH h p g) (w := w) (V := V) (RF_pI (RF_pI H _ _ _) _ _ _) hw q9 q7
  have v2 := w_value (h := stH h p g) (w := w) (V := V) (RF_pI (RF_pI H _ _ _) _ _ _) hw q9 q8
  unfold stH at v1 v2 ⊢
  simp only [f_X11_goesStep, o10, o00, bh, isO, inR, ck_true, bind_some9, Nat.reduceLeDiff, Nat.reduceEqDiff, and_self, and_true, true_and, false_and, and_false, not_false_eq_true, not_true_eq_false, or_self, or_false, false_or, if_true, if_false, reduceIte, RF_o H, RF_1209 H, RO_620 H, RL_620 H, RF_1210 H, RO_621 H, RL_621 H, RF_1214 H, RO_624 H, RL_624 H, RF_1215 H, RO_625 H, RL_625 H, RF_1216 H, RO_626 H, RL_626 H, RF_1217 H, RO_627 H, RL_627 H, RF_1218 H, RO_628 H, RL_628 H, RF_1219 H, RO_629 H, RL_629 H, RF_1220 H, RO_630 H, RL_630 H, RF_1242 H, RO_650 H, RL_650 H, RF_1245 H, RO_653 H, RL_653 H, zR_pE, zT_pE, zL_pE, zn_pE, zE_pE, zI_pE, zR_pI, zT_pI, zL_pI, zn_pI, zE_pI, zI_pI, nx, gx, lx, q1, nt, gt, lt, q2, q3, q4, q5, c1, c2, zi_one, zi_add, nk, gk, lk, v1, v2, q6, zi_8, n8, g8, l8, ho, ko_0_0, ko_0_1, ko_0_2, ko_0_3, ko_0_4, ko_0_5, ko_0_6, ko_0_7, ko_0_8, ko_0_9, ko_0_10, ko_0_11, ko_0_12, ko_0_13]

theorem w_go_1 {h : Hp} (H : RF h) {w t L B p g it : Nat} {V : Nat → Int32} (q : stCtx h w t L B p g it V) (ho : zE h 624 (B + p) = nI 1) : f_X11_goesStep 616 (nI w) h = some (pE (stH h p g) 653 (8 * w + it) ((vlOf V (zE h 626 (B + p)) (zE h 627 (B + p)) + vlOf V (zE h 628 (B + p)) (zE h 629 (B + p))))) := by
  obtain ⟨hw, ht, hB, hp, hL, hg, hi, q1, q2, q3, q4, q5, q6, q7, q8, q9⟩ := q
  have nx : (nI w).toNatClampNeg = w := zi_nat (by omega)
  have gx : ¬ nI w < 0 := zi_neg (by omega)
  have lx : ¬ 64 ≤ w := by omega
  have nt : (nI t).toNatClampNeg = t := zi_nat (by omega)
  have gt : ¬ nI t < 0 := zi_neg (by omega)
  have lt : ¬ 4100 ≤ t := by omega
  have nk : (nI (B + p)).toNatClampNeg = B + p := zi_nat (by omega)
  have gk : ¬ nI (B + p) < 0 := zi_neg (by omega)
  have lk : ¬ 11100 ≤ B + p := by omega
  have n8 : (nI (8 * w + it)).toNatClampNeg = 8 * w + it := zi_nat (by omega)
  have g8 : ¬ nI (8 * w + it) < 0 := zi_neg (by omega)
  have l8 : ¬ 512 ≤ 8 * w + it := by omega
  have c1 : ¬ nI p = nI L := fun e => absurd ((zi_eq (by omega) (by omega)).mp e) (by omega)
  have c2 : ¬ nI g = (200 : Int32) := fun e => absurd ((zi_eq (b := 200) (by omega) (by omega)).mp e) (by omega)
  have v1 := w_value (h := stH h p g) (w := w) (V := V) (RF_pI (RF_pI H _ _ _) _ _ _) hw q9 q7
  have v2 := w_value (h := stH h p g) (w := w) (V := V) (RF_pI (RF_pI H _ _ _) _ _ _) hw q9 q8
  unfold stH at v1 v2 ⊢
  simp only [f_X11_goesStep, o10, o00, bh, isO, inR, ck_true, bind_some9, Nat.reduceLeDiff, Nat.reduceEqDiff, and_self, and_true, true_and, false_and, and_false, not_false_eq_true, not_true_eq_false, or_self, or_false, false_or, if_true, if_false, reduceIte, RF_o H, RF_1209 H, RO_620 H, RL_620 H, RF_1210 H, RO_621 H, RL_621 H, RF_1214 H, RO_624 H, RL_624 H, RF_1215 H, RO_625 H, RL_625 H, RF_1216 H, RO_626 H, RL_626 H, RF_1217 H, RO_627 H, RL_627 H, RF_1218 H, RO_628 H, RL_628 H, RF_1219 H, RO_629 H, RL_629 H, RF_1220 H, RO_630 H, RL_630 H, RF_1242 H, RO_650 H, RL_650 H, RF_1245 H, RO_653 H, RL_653 H, zR_pE, zT_pE, zL_pE, zn_pE, zE_pE, zI_pE, zR_pI, zT_pI, zL_pI, zn_pI, zE_pI, zI_pI, nx, gx, lx, q1, nt, gt, lt, q2, q3, q4, q5, c1, c2, zi_one, zi_add, nk, gk, lk, v1, v2, q6, zi_8, n8, g8, l8, ho, ko_1_0, ko_1_1, ko_1_2, ko_1_3, ko_1_4, ko_1_5, ko_1_6, ko_1_7, ko_1_8, ko_1_9, ko_1_10, ko_1_11, ko_1_12, ko_1_13]

theorem w_go_2 {h : Hp} (H : RF h) {w t L B p g it : Nat} {V : Nat → Int32} (q : stCtx h w t L B p g it V) (ho : zE h 624 (B + p) = nI 2) : f_X11_goesStep 616 (nI w) h = some (pE (stH h p g) 653 (8 * w + it) ((vlOf V (zE h 626 (B + p)) (zE h 627 (B + p)) - vlOf V (zE h 628 (B + p)) (zE h 629 (B + p))))) := by
  obtain ⟨hw, ht, hB, hp, hL, hg, hi, q1, q2, q3, q4, q5, q6, q7, q8, q9⟩ := q
  have nx : (nI w).toNatClampNeg = w := zi_nat (by omega)
  have gx : ¬ nI w < 0 := zi_neg (by omega)
  have lx : ¬ 64 ≤ w := by omega
  have nt : (nI t).toNatClampNeg = t := zi_nat (by omega)
  have gt : ¬ nI t < 0 := zi_neg (by omega)
  have lt : ¬ 4100 ≤ t := by omega
  have nk : (nI (B + p)).toNatClampNeg = B + p := zi_nat (by omega)
  have gk : ¬ nI (B + p) < 0 := zi_neg (by omega)
  have lk : ¬ 11100 ≤ B + p := by omega
  have n8 : (nI (8 * w + it)).toNatClampNeg = 8 * w + it := zi_nat (by omega)
  have g8 : ¬ nI (8 * w + it) < 0 := zi_neg (by omega)
  have l8 : ¬ 512 ≤ 8 * w + it := by omega
  have c1 : ¬ nI p = nI L := fun e => absurd ((zi_eq (by omega) (by omega)).mp e) (by omega)
  have c2 : ¬ nI g = (200 : Int32) := fun e => absurd ((zi_eq (b := 200) (by omega) (by omega)).mp e) (by omega)
  have v1 := w_value (h := stH h p g) (w := w) (V := V) (RF_pI (RF_pI H _ _ _) _ _ _) hw q9 q7
  have v2 := w_value (h := stH h p g) (w := w) (V := V) (RF_pI (RF_pI H _ _ _) _ _ _) hw q9 q8
  unfold stH at v1 v2 ⊢
  simp only [f_X11_goesStep, o10, o00, bh, isO, inR, ck_true, bind_some9, Nat.reduceLeDiff, Nat.reduceEqDiff, and_self, and_true, true_and, false_and, and_false, not_false_eq_true, not_true_eq_false, or_self, or_false, false_or, if_true, if_false, reduceIte, RF_o H, RF_1209 H, RO_620 H, RL_620 H, RF_1210 H, RO_621 H, RL_621 H, RF_1214 H, RO_624 H, RL_624 H, RF_1215 H, RO_625 H, RL_625 H, RF_1216 H, RO_626 H, RL_626 H, RF_1217 H, RO_627 H, RL_627 H, RF_1218 H, RO_628 H, RL_628 H, RF_1219 H, RO_629 H, RL_629 H, RF_1220 H, RO_630 H, RL_630 H, RF_1242 H, RO_650 H, RL_650 H, RF_1245 H, RO_653 H, RL_653 H, zR_pE, zT_pE, zL_pE, zn_pE, zE_pE, zI_pE, zR_pI, zT_pI, zL_pI, zn_pI, zE_pI, zI_pI, nx, gx, lx, q1, nt, gt, lt, q2, q3, q4, q5, c1, c2, zi_one, zi_add, nk, gk, lk, v1, v2, q6, zi_8, n8, g8, l8, ho, ko_2_0, ko_2_1, ko_2_2, ko_2_3, ko_2_4, ko_2_5, ko_2_6, ko_2_7, ko_2_8, ko_2_9, ko_2_10, ko_2_11, ko_2_12, ko_2_13]

theorem w_go_3 {h : Hp} (H : RF h) {w t L B p g it : Nat} {V : Nat → Int32} (q : stCtx h w t L B p g it V) (ho : zE h 624 (B + p) = nI 3) : f_X11_goesStep 616 (nI w) h = some (pE (stH h p g) 653 (8 * w + it) ((vlOf V (zE h 626 (B + p)) (zE h 627 (B + p)) * vlOf V (zE h 628 (B + p)) (zE h 629 (B + p))))) := by
  obtain ⟨hw, ht, hB, hp, hL, hg, hi, q1, q2, q3, q4, q5, q6, q7, q8, q9⟩ := q
  have nx : (nI w).toNatClampNeg = w := zi_nat (by omega)
  have gx : ¬ nI w < 0 := zi_neg (by omega)
  have lx : ¬ 64 ≤ w := by omega
  have nt : (nI t).toNatClampNeg = t := zi_nat (by omega)
  have gt : ¬ nI t < 0 := zi_neg (by omega)
  have lt : ¬ 4100 ≤ t := by omega
  have nk : (nI (B + p)).toNatClampNeg = B + p := zi_nat (by omega)
  have gk : ¬ nI (B + p) < 0 := zi_neg (by omega)
  have lk : ¬ 11100 ≤ B + p := by omega
  have n8 : (nI (8 * w + it)).toNatClampNeg = 8 * w + it := zi_nat (by omega)
  have g8 : ¬ nI (8 * w + it) < 0 := zi_neg (by omega)
  have l8 : ¬ 512 ≤ 8 * w + it := by omega
  have c1 : ¬ nI p = nI L := fun e => absurd ((zi_eq (by omega) (by omega)).mp e) (by omega)
  have c2 : ¬ nI g = (200 : Int32) := fun e => absurd ((zi_eq (b := 200) (by omega) (by omega)).mp e) (by omega)
  have v1 := w_value (h := stH h p g) (w := w) (V := V) (RF_pI (RF_pI H _ _ _) _ _ _) hw q9 q7
  have v2 := w_value (h := stH h p g) (w := w) (V := V) (RF_pI (RF_pI H _ _ _) _ _ _) hw q9 q8
  unfold stH at v1 v2 ⊢
  simp only [f_X11_goesStep, o10, o00, bh, isO, inR, ck_true, bind_some9, Nat.reduceLeDiff, Nat.reduceEqDiff, and_self, and_true, true_and, false_and, and_false, not_false_eq_true, not_true_eq_false, or_self, or_false, false_or, if_true, if_false, reduceIte, RF_o H, RF_1209 H, RO_620 H, RL_620 H, RF_1210 H, RO_621 H, RL_621 H, RF_1214 H, RO_624 H, RL_624 H, RF_1215 H, RO_625 H, RL_625 H, RF_1216 H, RO_626 H, RL_626 H, RF_1217 H, RO_627 H, RL_627 H, RF_1218 H, RO_628 H, RL_628 H, RF_1219 H, RO_629 H, RL_629 H, RF_1220 H, RO_630 H, RL_630 H, RF_1242 H, RO_650 H, RL_650 H, RF_1245 H, RO_653 H, RL_653 H, zR_pE, zT_pE, zL_pE, zn_pE, zE_pE, zI_pE, zR_pI, zT_pI, zL_pI, zn_pI, zE_pI, zI_pI, nx, gx, lx, q1, nt, gt, lt, q2, q3, q4, q5, c1, c2, zi_one, zi_add, nk, gk, lk, v1, v2, q6, zi_8, n8, g8, l8, ho, ko_3_0, ko_3_1, ko_3_2, ko_3_3, ko_3_4, ko_3_5, ko_3_6, ko_3_7, ko_3_8, ko_3_9, ko_3_10, ko_3_11, ko_3_12, ko_3_13]

theorem w_go_4 {h : Hp} (H : RF h) {w t L B p g it : Nat} {V : Nat → Int32} (q : stCtx h w t L B p g it V) (ho : zE h 624 (B + p) = nI 4) : f_X11_goesStep 616 (nI w) h = some (pE (stH h p g) 653 (8 * w + it) ((if vlOf V (zE h 626 (B + p)) (zE h 627 (B + p)) < vlOf V (zE h 628 (B + p)) (zE h 629 (B + p)) then 1 else 0))) := by
  obtain ⟨hw, ht, hB, hp, hL, hg, hi, q1, q2, q3, q4, q5, q6, q7, q8, q9⟩ := q
  have nx : (nI w).toNatClampNeg = w := zi_nat (by omega)
  have gx : ¬ nI w < 0 := zi_neg (by omega)
  have lx : ¬ 64 ≤ w := by omega
  have nt : (nI t).toNatClampNeg = t := zi_nat (by omega)
  have gt : ¬ nI t < 0 := zi_neg (by omega)
  have lt : ¬ 4100 ≤ t := by omega
  have nk : (nI (B + p)).toNatClampNeg = B + p := zi_nat (by omega)
  have gk : ¬ nI (B + p) < 0 := zi_neg (by omega)
  have lk : ¬ 11100 ≤ B + p := by omega
  have n8 : (nI (8 * w + it)).toNatClampNeg = 8 * w + it := zi_nat (by omega)
  have g8 : ¬ nI (8 * w + it) < 0 := zi_neg (by omega)
  have l8 : ¬ 512 ≤ 8 * w + it := by omega
  have c1 : ¬ nI p = nI L := fun e => absurd ((zi_eq (by omega) (by omega)).mp e) (by omega)
  have c2 : ¬ nI g = (200 : Int32) := fun e => absurd ((zi_eq (b := 200) (by omega) (by omega)).mp e) (by omega)
  have v1 := w_value (h := stH h p g) (w := w) (V := V) (RF_pI (RF_pI H _ _ _) _ _ _) hw q9 q7
  have v2 := w_value (h := stH h p g) (w := w) (V := V) (RF_pI (RF_pI H _ _ _) _ _ _) hw q9 q8
  unfold stH at v1 v2 ⊢
  simp only [f_X11_goesStep, o10, o00, bh, isO, inR, ck_true, bind_some9, Nat.reduceLeDiff, Nat.reduceEqDiff, and_self, and_true, true_and, false_and, and_false, not_false_eq_true, not_true_eq_false, or_self, or_false, false_or, if_true, if_false, reduceIte, RF_o H, RF_1209 H, RO_620 H, RL_620 H, RF_1210 H, RO_621 H, RL_621 H, RF_1214 H, RO_624 H, RL_624 H, RF_1215 H, RO_625 H, RL_625 H, RF_1216 H, RO_626 H, RL_626 H, RF_1217 H, RO_627 H, RL_627 H, RF_1218 H, RO_628 H, RL_628 H, RF_1219 H, RO_629 H, RL_629 H, RF_1220 H, RO_630 H, RL_630 H, RF_1242 H, RO_650 H, RL_650 H, RF_1245 H, RO_653 H, RL_653 H, zR_pE, zT_pE, zL_pE, zn_pE, zE_pE, zI_pE, zR_pI, zT_pI, zL_pI, zn_pI, zE_pI, zI_pI, nx, gx, lx, q1, nt, gt, lt, q2, q3, q4, q5, c1, c2, zi_one, zi_add, nk, gk, lk, v1, v2, q6, zi_8, n8, g8, l8, ho, ko_4_0, ko_4_1, ko_4_2, ko_4_3, ko_4_4, ko_4_5, ko_4_6, ko_4_7, ko_4_8, ko_4_9, ko_4_10, ko_4_11, ko_4_12, ko_4_13]
  by_cases c : vlOf V (zE h 626 (B + p)) (zE h 627 (B + p)) < vlOf V (zE h 628 (B + p)) (zE h 629 (B + p))
  · rw [if_neg (Int32.not_le.mpr c), if_pos c]
  · rw [if_pos (Int32.not_lt.mp c), if_neg c]

theorem w_go_5 {h : Hp} (H : RF h) {w t L B p g it : Nat} {V : Nat → Int32} (q : stCtx h w t L B p g it V) (ho : zE h 624 (B + p) = nI 5) : f_X11_goesStep 616 (nI w) h = some (pE (stH h p g) 653 (8 * w + it) ((if vlOf V (zE h 626 (B + p)) (zE h 627 (B + p)) = vlOf V (zE h 628 (B + p)) (zE h 629 (B + p)) then 1 else 0))) := by
  obtain ⟨hw, ht, hB, hp, hL, hg, hi, q1, q2, q3, q4, q5, q6, q7, q8, q9⟩ := q
  have nx : (nI w).toNatClampNeg = w := zi_nat (by omega)
  have gx : ¬ nI w < 0 := zi_neg (by omega)
  have lx : ¬ 64 ≤ w := by omega
  have nt : (nI t).toNatClampNeg = t := zi_nat (by omega)
  have gt : ¬ nI t < 0 := zi_neg (by omega)
  have lt : ¬ 4100 ≤ t := by omega
  have nk : (nI (B + p)).toNatClampNeg = B + p := zi_nat (by omega)
  have gk : ¬ nI (B + p) < 0 := zi_neg (by omega)
  have lk : ¬ 11100 ≤ B + p := by omega
  have n8 : (nI (8 * w + it)).toNatClampNeg = 8 * w + it := zi_nat (by omega)
  have g8 : ¬ nI (8 * w + it) < 0 := zi_neg (by omega)
  have l8 : ¬ 512 ≤ 8 * w + it := by omega
  have c1 : ¬ nI p = nI L := fun e => absurd ((zi_eq (by omega) (by omega)).mp e) (by omega)
  have c2 : ¬ nI g = (200 : Int32) := fun e => absurd ((zi_eq (b := 200) (by omega) (by omega)).mp e) (by omega)
  have v1 := w_value (h := stH h p g) (w := w) (V := V) (RF_pI (RF_pI H _ _ _) _ _ _) hw q9 q7
  have v2 := w_value (h := stH h p g) (w := w) (V := V) (RF_pI (RF_pI H _ _ _) _ _ _) hw q9 q8
  unfold stH at v1 v2 ⊢
  simp only [f_X11_goesStep, o10, o00, bh, isO, inR, ck_true, bind_some9, Nat.reduceLeDiff, Nat.reduceEqDiff, and_self, and_true, true_and, false_and, and_false, not_false_eq_true, not_true_eq_false, or_self, or_false, false_or, if_true, if_false, reduceIte, RF_o H, RF_1209 H, RO_620 H, RL_620 H, RF_1210 H, RO_621 H, RL_621 H, RF_1214 H, RO_624 H, RL_624 H, RF_1215 H, RO_625 H, RL_625 H, RF_1216 H, RO_626 H, RL_626 H, RF_1217 H, RO_627 H, RL_627 H, RF_1218 H, RO_628 H, RL_628 H, RF_1219 H, RO_629 H, RL_629 H, RF_1220 H, RO_630 H, RL_630 H, RF_1242 H, RO_650 H, RL_650 H, RF_1245 H, RO_653 H, RL_653 H, zR_pE, zT_pE, zL_pE, zn_pE, zE_pE, zI_pE, zR_pI, zT_pI, zL_pI, zn_pI, zE_pI, zI_pI, nx, gx, lx, q1, nt, gt, lt, q2, q3, q4, q5, c1, c2, zi_one, zi_add, nk, gk, lk, v1, v2, q6, zi_8, n8, g8, l8, ho, ko_5_0, ko_5_1, ko_5_2, ko_5_3, ko_5_4, ko_5_5, ko_5_6, ko_5_7, ko_5_8, ko_5_9, ko_5_10, ko_5_11, ko_5_12, ko_5_13]
  split <;> rfl

theorem w_go_6 {h : Hp} (H : RF h) {w t L B p g it : Nat} {V : Nat → Int32} (q : stCtx h w t L B p g it V) (ho : zE h 624 (B + p) = nI 6) : f_X11_goesStep 616 (nI w) h = f_X11_asks 616 (nI w) (nI (B + p)) (vlOf V (zE h 626 (B + p)) (zE h 627 (B + p))) (vlOf V (zE h 628 (B + p)) (zE h 629 (B + p))) (stH h p g) := by
  obtain ⟨hw, ht, hB, hp, hL, hg, hi, q1, q2, q3, q4, q5, q6, q7, q8, q9⟩ := q
  have nx : (nI w).toNatClampNeg = w := zi_nat (by omega)
  have gx : ¬ nI w < 0 := zi_neg (by omega)
  have lx : ¬ 64 ≤ w := by omega
  have nt : (nI t).toNatClampNeg = t := zi_nat (by omega)
  have gt : ¬ nI t < 0 := zi_neg (by omega)
  have lt : ¬ 4100 ≤ t := by omega
  have nk : (nI (B + p)).toNatClampNeg = B + p := zi_nat (by omega)
  have gk : ¬ nI (B + p) < 0 := zi_neg (by omega)
  have lk : ¬ 11100 ≤ B + p := by omega
  have n8 : (nI (8 * w + it)).toNatClampNeg = 8 * w + it := zi_nat (by omega)
  have g8 : ¬ nI (8 * w + it) < 0 := zi_neg (by omega)
  have l8 : ¬ 512 ≤ 8 * w + it := by omega
  have c1 : ¬ nI p = nI L := fun e => absurd ((zi_eq (by omega) (by omega)).mp e) (by omega)
  have c2 : ¬ nI g = (200 : Int32) := fun e => absurd ((zi_eq (b := 200) (by omega) (by omega)).mp e) (by omega)
  have v1 := w_value (h := stH h p g) (w := w) (V := V) (RF_pI (RF_pI H _ _ _) _ _ _) hw q9 q7
  have v2 := w_value (h := stH h p g) (w := w) (V := V) (RF_pI (RF_pI H _ _ _) _ _ _) hw q9 q8
  unfold stH at v1 v2 ⊢
  simp only [f_X11_goesStep, o10, o00, bh, isO, inR, ck_true, bind_some9, Nat.reduceLeDiff, Nat.reduceEqDiff, and_self, and_true, true_and, false_and, and_false, not_false_eq_true, not_true_eq_false, or_self, or_false, false_or, if_true, if_false, reduceIte, RF_o H, RF_1209 H, RO_620 H, RL_620 H, RF_1210 H, RO_621 H, RL_621 H, RF_1214 H, RO_624 H, RL_624 H, RF_1215 H, RO_625 H, RL_625 H, RF_1216 H, RO_626 H, RL_626 H, RF_1217 H, RO_627 H, RL_627 H, RF_1218 H, RO_628 H, RL_628 H, RF_1219 H, RO_629 H, RL_629 H, RF_1220 H, RO_630 H, RL_630 H, RF_1242 H, RO_650 H, RL_650 H, RF_1245 H, RO_653 H, RL_653 H, zR_pE, zT_pE, zL_pE, zn_pE, zE_pE, zI_pE, zR_pI, zT_pI, zL_pI, zn_pI, zE_pI, zI_pI, nx, gx, lx, q1, nt, gt, lt, q2, q3, q4, q5, c1, c2, zi_one, zi_add, nk, gk, lk, v1, v2, q6, zi_8, n8, g8, l8, ho, ko_6_0, ko_6_1, ko_6_2, ko_6_3, ko_6_4, ko_6_5, ko_6_6, ko_6_7, ko_6_8, ko_6_9, ko_6_10, ko_6_11, ko_6_12, ko_6_13]
  exact bind_id _

theorem w_go_7 {h : Hp} (H : RF h) {w t L B p g it : Nat} {V : Nat → Int32} (q : stCtx h w t L B p g it V) (ho : zE h 624 (B + p) = nI 7) : f_X11_goesStep 616 (nI w) h = f_X11_asks 616 (nI w) (nI (B + p)) (vlOf V (zE h 626 (B + p)) (zE h 627 (B + p))) (vlOf V (zE h 628 (B + p)) (zE h 629 (B + p))) (stH h p g) := by
  obtain ⟨hw, ht, hB, hp, hL, hg, hi, q1, q2, q3, q4, q5, q6, q7, q8, q9⟩ := q
  have nx : (nI w).toNatClampNeg = w := zi_nat (by omega)
  have gx : ¬ nI w < 0 := zi_neg (by omega)
  have lx : ¬ 64 ≤ w := by omega
  have nt : (nI t).toNatClampNeg = t := zi_nat (by omega)
  have gt : ¬ nI t < 0 := zi_neg (by omega)
  have lt : ¬ 4100 ≤ t := by omega
  have nk : (nI (B + p)).toNatClampNeg = B + p := zi_nat (by omega)
  have gk : ¬ nI (B + p) < 0 := zi_neg (by omega)
  have lk : ¬ 11100 ≤ B + p := by omega
  have n8 : (nI (8 * w + it)).toNatClampNeg = 8 * w + it := zi_nat (by omega)
  have g8 : ¬ nI (8 * w + it) < 0 := zi_neg (by omega)
  have l8 : ¬ 512 ≤ 8 * w + it := by omega
  have c1 : ¬ nI p = nI L := fun e => absurd ((zi_eq (by omega) (by omega)).mp e) (by omega)
  have c2 : ¬ nI g = (200 : Int32) := fun e => absurd ((zi_eq (b := 200) (by omega) (by omega)).mp e) (by omega)
  have v1 := w_value (h := stH h p g) (w := w) (V := V) (RF_pI (RF_pI H _ _ _) _ _ _) hw q9 q7
  have v2 := w_value (h := stH h p g) (w := w) (V := V) (RF_pI (RF_pI H _ _ _) _ _ _) hw q9 q8
  unfold stH at v1 v2 ⊢
  simp only [f_X11_goesStep, o10, o00, bh, isO, inR, ck_true, bind_some9, Nat.reduceLeDiff, Nat.reduceEqDiff, and_self, and_true, true_and, false_and, and_false, not_false_eq_true, not_true_eq_false, or_self, or_false, false_or, if_true, if_false, reduceIte, RF_o H, RF_1209 H, RO_620 H, RL_620 H, RF_1210 H, RO_621 H, RL_621 H, RF_1214 H, RO_624 H, RL_624 H, RF_1215 H, RO_625 H, RL_625 H, RF_1216 H, RO_626 H, RL_626 H, RF_1217 H, RO_627 H, RL_627 H, RF_1218 H, RO_628 H, RL_628 H, RF_1219 H, RO_629 H, RL_629 H, RF_1220 H, RO_630 H, RL_630 H, RF_1242 H, RO_650 H, RL_650 H, RF_1245 H, RO_653 H, RL_653 H, zR_pE, zT_pE, zL_pE, zn_pE, zE_pE, zI_pE, zR_pI, zT_pI, zL_pI, zn_pI, zE_pI, zI_pI, nx, gx, lx, q1, nt, gt, lt, q2, q3, q4, q5, c1, c2, zi_one, zi_add, nk, gk, lk, v1, v2, q6, zi_8, n8, g8, l8, ho, ko_7_0, ko_7_1, ko_7_2, ko_7_3, ko_7_4, ko_7_5, ko_7_6, ko_7_7, ko_7_8, ko_7_9, ko_7_10, ko_7_11, ko_7_12, ko_7_13]
  exact bind_id _

theorem w_go_8 {h : Hp} (H : RF h) {w t L B p g it : Nat} {V : Nat → Int32} (q : stCtx h w t L B p g it V) (ho : zE h 624 (B + p) = nI 8) : f_X11_goesStep 616 (nI w) h = f_X11_asks 616 (nI w) (nI (B + p)) (vlOf V (zE h 626 (B + p)) (zE h 627 (B + p))) (vlOf V (zE h 628 (B + p)) (zE h 629 (B + p))) (stH h p g) := by
  obtain ⟨hw, ht, hB, hp, hL, hg, hi, q1, q2, q3, q4, q5, q6, q7, q8, q9⟩ := q
  have nx : (nI w).toNatClampNeg = w := zi_nat (by omega)
  have gx : ¬ nI w < 0 := zi_neg (by omega)
  have lx : ¬ 64 ≤ w := by omega
  have nt : (nI t).toNatClampNeg = t := zi_nat (by omega)
  have gt : ¬ nI t < 0 := zi_neg (by omega)
  have lt : ¬ 4100 ≤ t := by omega
  have nk : (nI (B + p)).toNatClampNeg = B + p := zi_nat (by omega)
  have gk : ¬ nI (B + p) < 0 := zi_neg (by omega)
  have lk : ¬ 11100 ≤ B + p := by omega
  have n8 : (nI (8 * w + it)).toNatClampNeg = 8 * w + it := zi_nat (by omega)
  have g8 : ¬ nI (8 * w + it) < 0 := zi_neg (by omega)
  have l8 : ¬ 512 ≤ 8 * w + it := by omega
  have c1 : ¬ nI p = nI L := fun e => absurd ((zi_eq (by omega) (by omega)).mp e) (by omega)
  have c2 : ¬ nI g = (200 : Int32) := fun e => absurd ((zi_eq (b := 200) (by omega) (by omega)).mp e) (by omega)
  have v1 := w_value (h := stH h p g) (w := w) (V := V) (RF_pI (RF_pI H _ _ _) _ _ _) hw q9 q7
  have v2 := w_value (h := stH h p g) (w := w) (V := V) (RF_pI (RF_pI H _ _ _) _ _ _) hw q9 q8
  unfold stH at v1 v2 ⊢
  simp only [f_X11_goesStep, o10, o00, bh, isO, inR, ck_true, bind_some9, Nat.reduceLeDiff, Nat.reduceEqDiff, and_self, and_true, true_and, false_and, and_false, not_false_eq_true, not_true_eq_false, or_self, or_false, false_or, if_true, if_false, reduceIte, RF_o H, RF_1209 H, RO_620 H, RL_620 H, RF_1210 H, RO_621 H, RL_621 H, RF_1214 H, RO_624 H, RL_624 H, RF_1215 H, RO_625 H, RL_625 H, RF_1216 H, RO_626 H, RL_626 H, RF_1217 H, RO_627 H, RL_627 H, RF_1218 H, RO_628 H, RL_628 H, RF_1219 H, RO_629 H, RL_629 H, RF_1220 H, RO_630 H, RL_630 H, RF_1242 H, RO_650 H, RL_650 H, RF_1245 H, RO_653 H, RL_653 H, zR_pE, zT_pE, zL_pE, zn_pE, zE_pE, zI_pE, zR_pI, zT_pI, zL_pI, zn_pI, zE_pI, zI_pI, nx, gx, lx, q1, nt, gt, lt, q2, q3, q4, q5, c1, c2, zi_one, zi_add, nk, gk, lk, v1, v2, q6, zi_8, n8, g8, l8, ho, ko_8_0, ko_8_1, ko_8_2, ko_8_3, ko_8_4, ko_8_5, ko_8_6, ko_8_7, ko_8_8, ko_8_9, ko_8_10, ko_8_11, ko_8_12, ko_8_13]
  exact bind_id _

theorem w_go_9 {h : Hp} (H : RF h) {w t L B p g it : Nat} {V : Nat → Int32} (q : stCtx h w t L B p g it V) (ho : zE h 624 (B + p) = nI 9) : f_X11_goesStep 616 (nI w) h = f_X11_asks 616 (nI w) (nI (B + p)) (vlOf V (zE h 626 (B + p)) (zE h 627 (B + p))) (vlOf V (zE h 628 (B + p)) (zE h 629 (B + p))) (stH h p g) := by
  obtain ⟨hw, ht, hB, hp, hL, hg, hi, q1, q2, q3, q4, q5, q6, q7, q8, q9⟩ := q
  have nx : (nI w).toNatClampNeg = w := zi_nat (by omega)
  have gx : ¬ nI w < 0 := zi_neg (by omega)
  have lx : ¬ 64 ≤ w := by omega
  have nt : (nI t).toNatClampNeg = t := zi_nat (by omega)
  have gt : ¬ nI t < 0 := zi_neg (by omega)
  have lt : ¬ 4100 ≤ t := by omega
  have nk : (nI (B + p)).toNatClampNeg = B + p := zi_nat (by omega)
  have gk : ¬ nI (B + p) < 0 := zi_neg (by omega)
  have lk : ¬ 11100 ≤ B + p := by omega
  have n8 : (nI (8 * w + it)).toNatClampNeg = 8 * w + it := zi_nat (by omega)
  have g8 : ¬ nI (8 * w + it) < 0 := zi_neg (by omega)
  have l8 : ¬ 512 ≤ 8 * w + it := by omega
  have c1 : ¬ nI p = nI L := fun e => absurd ((zi_eq (by omega) (by omega)).mp e) (by omega)
  have c2 : ¬ nI g = (200 : Int32) := fun e => absurd ((zi_eq (b := 200) (by omega) (by omega)).mp e) (by omega)
  have v1 := w_value (h := stH h p g) (w := w) (V := V) (RF_pI (RF_pI H _ _ _) _ _ _) hw q9 q7
  have v2 := w_value (h := stH h p g) (w := w) (V := V) (RF_pI (RF_pI H _ _ _) _ _ _) hw q9 q8
  unfold stH at v1 v2 ⊢
  simp only [f_X11_goesStep, o10, o00, bh, isO, inR, ck_true, bind_some9, Nat.reduceLeDiff, Nat.reduceEqDiff, and_self, and_true, true_and, false_and, and_false, not_false_eq_true, not_true_eq_false, or_self, or_false, false_or, if_true, if_false, reduceIte, RF_o H, RF_1209 H, RO_620 H, RL_620 H, RF_1210 H, RO_621 H, RL_621 H, RF_1214 H, RO_624 H, RL_624 H, RF_1215 H, RO_625 H, RL_625 H, RF_1216 H, RO_626 H, RL_626 H, RF_1217 H, RO_627 H, RL_627 H, RF_1218 H, RO_628 H, RL_628 H, RF_1219 H, RO_629 H, RL_629 H, RF_1220 H, RO_630 H, RL_630 H, RF_1242 H, RO_650 H, RL_650 H, RF_1245 H, RO_653 H, RL_653 H, zR_pE, zT_pE, zL_pE, zn_pE, zE_pE, zI_pE, zR_pI, zT_pI, zL_pI, zn_pI, zE_pI, zI_pI, nx, gx, lx, q1, nt, gt, lt, q2, q3, q4, q5, c1, c2, zi_one, zi_add, nk, gk, lk, v1, v2, q6, zi_8, n8, g8, l8, ho, ko_9_0, ko_9_1, ko_9_2, ko_9_3, ko_9_4, ko_9_5, ko_9_6, ko_9_7, ko_9_8, ko_9_9, ko_9_10, ko_9_11, ko_9_12, ko_9_13]
  exact bind_id _

theorem w_go_10 {h : Hp} (H : RF h) {w t L B p g it : Nat} {V : Nat → Int32} (q : stCtx h w t L B p g it V) (ho : zE h 624 (B + p) = nI 10) : f_X11_goesStep 616 (nI w) h = f_X11_asks 616 (nI w) (nI (B + p)) (vlOf V (zE h 626 (B + p)) (zE h 627 (B + p))) (vlOf V (zE h 628 (B + p)) (zE h 629 (B + p))) (stH h p g) := by
  obtain ⟨hw, ht, hB, hp, hL, hg, hi, q1, q2, q3, q4, q5, q6, q7, q8, q9⟩ := q
  have nx : (nI w).toNatClampNeg = w := zi_nat (by omega)
  have gx : ¬ nI w < 0 := zi_neg (by omega)
  have lx : ¬ 64 ≤ w := by omega
  have nt : (nI t).toNatClampNeg = t := zi_nat (by omega)
  have gt : ¬ nI t < 0 := zi_neg (by omega)
  have lt : ¬ 4100 ≤ t := by omega
  have nk : (nI (B + p)).toNatClampNeg = B + p := zi_nat (by omega)
  have gk : ¬ nI (B + p) < 0 := zi_neg (by omega)
  have lk : ¬ 11100 ≤ B + p := by omega
  have n8 : (nI (8 * w + it)).toNatClampNeg = 8 * w + it := zi_nat (by omega)
  have g8 : ¬ nI (8 * w + it) < 0 := zi_neg (by omega)
  have l8 : ¬ 512 ≤ 8 * w + it := by omega
  have c1 : ¬ nI p = nI L := fun e => absurd ((zi_eq (by omega) (by omega)).mp e) (by omega)
  have c2 : ¬ nI g = (200 : Int32) := fun e => absurd ((zi_eq (b := 200) (by omega) (by omega)).mp e) (by omega)
  have v1 := w_value (h := stH h p g) (w := w) (V := V) (RF_pI (RF_pI H _ _ _) _ _ _) hw q9 q7
  have v2 := w_value (h := stH h p g) (w := w) (V := V) (RF_pI (RF_pI H _ _ _) _ _ _) hw q9 q8
  unfold stH at v1 v2 ⊢
  simp only [f_X11_goesStep, o10, o00, bh, isO, inR, ck_true, bind_some9, Nat.reduceLeDiff, Nat.reduceEqDiff, and_self, and_true, true_and, false_and, and_false, not_false_eq_true, not_true_eq_false, or_self, or_false, false_or, if_true, if_false, reduceIte, RF_o H, RF_1209 H, RO_620 H, RL_620 H, RF_1210 H, RO_621 H, RL_621 H, RF_1214 H, RO_624 H, RL_624 H, RF_1215 H, RO_625 H, RL_625 H, RF_1216 H, RO_626 H, RL_626 H, RF_1217 H, RO_627 H, RL_627 H, RF_1218 H, RO_628 H, RL_628 H, RF_1219 H, RO_629 H, RL_629 H, RF_1220 H, RO_630 H, RL_630 H, RF_1242 H, RO_650 H, RL_650 H, RF_1245 H, RO_653 H, RL_653 H, zR_pE, zT_pE, zL_pE, zn_pE, zE_pE, zI_pE, zR_pI, zT_pI, zL_pI, zn_pI, zE_pI, zI_pI, nx, gx, lx, q1, nt, gt, lt, q2, q3, q4, q5, c1, c2, zi_one, zi_add, nk, gk, lk, v1, v2, q6, zi_8, n8, g8, l8, ho, ko_10_0, ko_10_1, ko_10_2, ko_10_3, ko_10_4, ko_10_5, ko_10_6, ko_10_7, ko_10_8, ko_10_9, ko_10_10, ko_10_11, ko_10_12, ko_10_13]
  exact bind_id _

theorem w_go_11 {h : Hp} (H : RF h) {w t L B p g it : Nat} {V : Nat → Int32} (q : stCtx h w t L B p g it V) (ho : zE h 624 (B + p) = nI 11) : f_X11_goesStep 616 (nI w) h = f_X11_asks 616 (nI w) (nI (B + p)) (vlOf V (zE h 626 (B + p)) (zE h 627 (B + p))) (vlOf V (zE h 628 (B + p)) (zE h 629 (B + p))) (stH h p g) := by
  obtain ⟨hw, ht, hB, hp, hL, hg, hi, q1, q2, q3, q4, q5, q6, q7, q8, q9⟩ := q
  have nx : (nI w).toNatClampNeg = w := zi_nat (by omega)
  have gx : ¬ nI w < 0 := zi_neg (by omega)
  have lx : ¬ 64 ≤ w := by omega
  have nt : (nI t).toNatClampNeg = t := zi_nat (by omega)
  have gt : ¬ nI t < 0 := zi_neg (by omega)
  have lt : ¬ 4100 ≤ t := by omega
  have nk : (nI (B + p)).toNatClampNeg = B + p := zi_nat (by omega)
  have gk : ¬ nI (B + p) < 0 := zi_neg (by omega)
  have lk : ¬ 11100 ≤ B + p := by omega
  have n8 : (nI (8 * w + it)).toNatClampNeg = 8 * w + it := zi_nat (by omega)
  have g8 : ¬ nI (8 * w + it) < 0 := zi_neg (by omega)
  have l8 : ¬ 512 ≤ 8 * w + it := by omega
  have c1 : ¬ nI p = nI L := fun e => absurd ((zi_eq (by omega) (by omega)).mp e) (by omega)
  have c2 : ¬ nI g = (200 : Int32) := fun e => absurd ((zi_eq (b := 200) (by omega) (by omega)).mp e) (by omega)
  have v1 := w_value (h := stH h p g) (w := w) (V := V) (RF_pI (RF_pI H _ _ _) _ _ _) hw q9 q7
  have v2 := w_value (h := stH h p g) (w := w) (V := V) (RF_pI (RF_pI H _ _ _) _ _ _) hw q9 q8
  unfold stH at v1 v2 ⊢
  simp only [f_X11_goesStep, o10, o00, bh, isO, inR, ck_true, bind_some9, Nat.reduceLeDiff, Nat.reduceEqDiff, and_self, and_true, true_and, false_and, and_false, not_false_eq_true, not_true_eq_false, or_self, or_false, false_or, if_true, if_false, reduceIte, RF_o H, RF_1209 H, RO_620 H, RL_620 H, RF_1210 H, RO_621 H, RL_621 H, RF_1214 H, RO_624 H, RL_624 H, RF_1215 H, RO_625 H, RL_625 H, RF_1216 H, RO_626 H, RL_626 H, RF_1217 H, RO_627 H, RL_627 H, RF_1218 H, RO_628 H, RL_628 H, RF_1219 H, RO_629 H, RL_629 H, RF_1220 H, RO_630 H, RL_630 H, RF_1242 H, RO_650 H, RL_650 H, RF_1245 H, RO_653 H, RL_653 H, zR_pE, zT_pE, zL_pE, zn_pE, zE_pE, zI_pE, zR_pI, zT_pI, zL_pI, zn_pI, zE_pI, zI_pI, nx, gx, lx, q1, nt, gt, lt, q2, q3, q4, q5, c1, c2, zi_one, zi_add, nk, gk, lk, v1, v2, q6, zi_8, n8, g8, l8, ho, ko_11_0, ko_11_1, ko_11_2, ko_11_3, ko_11_4, ko_11_5, ko_11_6, ko_11_7, ko_11_8, ko_11_9, ko_11_10, ko_11_11, ko_11_12, ko_11_13]
  exact bind_id _

theorem w_go_12 {h : Hp} (H : RF h) {w t L B p g it : Nat} {V : Nat → Int32} (q : stCtx h w t L B p g it V) (ho : zE h 624 (B + p) = nI 12) : f_X11_goesStep 616 (nI w) h = some (pI (stH h p g) 1263 616 (if vlOf V (zE h 626 (B + p)) (zE h 627 (B + p)) = 0 then nI (p + 1) else zE h 630 (B + p))) := by
  obtain ⟨hw, ht, hB, hp, hL, hg, hi, q1, q2, q3, q4, q5, q6, q7, q8, q9⟩ := q
  have nx : (nI w).toNatClampNeg = w := zi_nat (by omega)
  have gx : ¬ nI w < 0 := zi_neg (by omega)
  have lx : ¬ 64 ≤ w := by omega
  have nt : (nI t).toNatClampNeg = t := zi_nat (by omega)
  have gt : ¬ nI t < 0 := zi_neg (by omega)
  have lt : ¬ 4100 ≤ t := by omega
  have nk : (nI (B + p)).toNatClampNeg = B + p := zi_nat (by omega)
  have gk : ¬ nI (B + p) < 0 := zi_neg (by omega)
  have lk : ¬ 11100 ≤ B + p := by omega
  have n8 : (nI (8 * w + it)).toNatClampNeg = 8 * w + it := zi_nat (by omega)
  have g8 : ¬ nI (8 * w + it) < 0 := zi_neg (by omega)
  have l8 : ¬ 512 ≤ 8 * w + it := by omega
  have c1 : ¬ nI p = nI L := fun e => absurd ((zi_eq (by omega) (by omega)).mp e) (by omega)
  have c2 : ¬ nI g = (200 : Int32) := fun e => absurd ((zi_eq (b := 200) (by omega) (by omega)).mp e) (by omega)
  have v1 := w_value (h := stH h p g) (w := w) (V := V) (RF_pI (RF_pI H _ _ _) _ _ _) hw q9 q7
  have v2 := w_value (h := stH h p g) (w := w) (V := V) (RF_pI (RF_pI H _ _ _) _ _ _) hw q9 q8
  unfold stH at v1 v2 ⊢
  simp only [f_X11_goesStep, o10, o00, bh, isO, inR, ck_true, bind_some9, Nat.reduceLeDiff, Nat.reduceEqDiff, and_self, and_true, true_and, false_and, and_false, not_false_eq_true, not_true_eq_false, or_self, or_false, false_or, if_true, if_false, reduceIte, RF_o H, RF_1209 H, RO_620 H, RL_620 H, RF_1210 H, RO_621 H, RL_621 H, RF_1214 H, RO_624 H, RL_624 H, RF_1215 H, RO_625 H, RL_625 H, RF_1216 H, RO_626 H, RL_626 H, RF_1217 H, RO_627 H, RL_627 H, RF_1218 H, RO_628 H, RL_628 H, RF_1219 H, RO_629 H, RL_629 H, RF_1220 H, RO_630 H, RL_630 H, RF_1242 H, RO_650 H, RL_650 H, RF_1245 H, RO_653 H, RL_653 H, zR_pE, zT_pE, zL_pE, zn_pE, zE_pE, zI_pE, zR_pI, zT_pI, zL_pI, zn_pI, zE_pI, zI_pI, nx, gx, lx, q1, nt, gt, lt, q2, q3, q4, q5, c1, c2, zi_one, zi_add, nk, gk, lk, v1, v2, q6, zi_8, n8, g8, l8, ho, ko_12_0, ko_12_1, ko_12_2, ko_12_3, ko_12_4, ko_12_5, ko_12_6, ko_12_7, ko_12_8, ko_12_9, ko_12_10, ko_12_11, ko_12_12, ko_12_13]
  split <;> rfl

theorem w_go_13 {h : Hp} (H : RF h) {w t L B p g it : Nat} {V : Nat → Int32} (q : stCtx h w t L B p g it V) (ho : zE h 624 (B + p) = nI 13) : f_X11_goesStep 616 (nI w) h = some (pI (stH h p g) 1263 616 (zE h 630 (B + p))) := by
  obtain ⟨hw, ht, hB, hp, hL, hg, hi, q1, q2, q3, q4, q5, q6, q7, q8, q9⟩ := q
  have nx : (nI w).toNatClampNeg = w := zi_nat (by omega)
  have gx : ¬ nI w < 0 := zi_neg (by omega)
  have lx : ¬ 64 ≤ w := by omega
  have nt : (nI t).toNatClampNeg = t := zi_nat (by omega)
  have gt : ¬ nI t < 0 := zi_neg (by omega)
  have lt : ¬ 4100 ≤ t := by omega
  have nk : (nI (B + p)).toNatClampNeg = B + p := zi_nat (by omega)
  have gk : ¬ nI (B + p) < 0 := zi_neg (by omega)
  have lk : ¬ 11100 ≤ B + p := by omega
  have n8 : (nI (8 * w + it)).toNatClampNeg = 8 * w + it := zi_nat (by omega)
  have g8 : ¬ nI (8 * w + it) < 0 := zi_neg (by omega)
  have l8 : ¬ 512 ≤ 8 * w + it := by omega
  have c1 : ¬ nI p = nI L := fun e => absurd ((zi_eq (by omega) (by omega)).mp e) (by omega)
  have c2 : ¬ nI g = (200 : Int32) := fun e => absurd ((zi_eq (b := 200) (by omega) (by omega)).mp e) (by omega)
  have v1 := w_value (h := stH h p g) (w := w) (V := V) (RF_pI (RF_pI H _ _ _) _ _ _) hw q9 q7
  have v2 := w_value (h := stH h p g) (w := w) (V := V) (RF_pI (RF_pI H _ _ _) _ _ _) hw q9 q8
  unfold stH at v1 v2 ⊢
  simp only [f_X11_goesStep, o10, o00, bh, isO, inR, ck_true, bind_some9, Nat.reduceLeDiff, Nat.reduceEqDiff, and_self, and_true, true_and, false_and, and_false, not_false_eq_true, not_true_eq_false, or_self, or_false, false_or, if_true, if_false, reduceIte, RF_o H, RF_1209 H, RO_620 H, RL_620 H, RF_1210 H, RO_621 H, RL_621 H, RF_1214 H, RO_624 H, RL_624 H, RF_1215 H, RO_625 H, RL_625 H, RF_1216 H, RO_626 H, RL_626 H, RF_1217 H, RO_627 H, RL_627 H, RF_1218 H, RO_628 H, RL_628 H, RF_1219 H, RO_629 H, RL_629 H, RF_1220 H, RO_630 H, RL_630 H, RF_1242 H, RO_650 H, RL_650 H, RF_1245 H, RO_653 H, RL_653 H, zR_pE, zT_pE, zL_pE, zn_pE, zE_pE, zI_pE, zR_pI, zT_pI, zL_pI, zn_pI, zE_pI, zI_pI, nx, gx, lx, q1, nt, gt, lt, q2, q3, q4, q5, c1, c2, zi_one, zi_add, nk, gk, lk, v1, v2, q6, zi_8, n8, g8, l8, ho, ko_13_0, ko_13_1, ko_13_2, ko_13_3, ko_13_4, ko_13_5, ko_13_6, ko_13_7, ko_13_8, ko_13_9, ko_13_10, ko_13_11, ko_13_12, ko_13_13]

theorem w_go_14 {h : Hp} (H : RF h) {w t L B p g it : Nat} {V : Nat → Int32} (q : stCtx h w t L B p g it V) (ho : zE h 624 (B + p) = nI 14) : f_X11_goesStep 616 (nI w) h = f_X11_asks 616 (nI w) (nI (B + p)) (vlOf V (zE h 626 (B + p)) (zE h 627 (B + p))) (vlOf V (zE h 628 (B + p)) (zE h 629 (B + p))) (stH h p g) := by
  obtain ⟨hw, ht, hB, hp, hL, hg, hi, q1, q2, q3, q4, q5, q6, q7, q8, q9⟩ := q
  have nx : (nI w).toNatClampNeg = w := zi_nat (by omega)
  have gx : ¬ nI w < 0 := zi_neg (by omega)
  have lx : ¬ 64 ≤ w := by omega
  have nt : (nI t).toNatClampNeg = t := zi_nat (by omega)
  have gt : ¬ nI t < 0 := zi_neg (by omega)
  have lt : ¬ 4100 ≤ t := by omega
  have nk : (nI (B + p)).toNatClampNeg = B + p := zi_nat (by omega)
  have gk : ¬ nI (B + p) < 0 := zi_neg (by omega)
  have lk : ¬ 11100 ≤ B + p := by omega
  have n8 : (nI (8 * w + it)).toNatClampNeg = 8 * w + it := zi_nat (by omega)
  have g8 : ¬ nI (8 * w + it) < 0 := zi_neg (by omega)
  have l8 : ¬ 512 ≤ 8 * w + it := by omega
  have c1 : ¬ nI p = nI L := fun e => absurd ((zi_eq (by omega) (by omega)).mp e) (by omega)
  have c2 : ¬ nI g = (200 : Int32) := fun e => absurd ((zi_eq (b := 200) (by omega) (by omega)).mp e) (by omega)
  have v1 := w_value (h := stH h p g) (w := w) (V := V) (RF_pI (RF_pI H _ _ _) _ _ _) hw q9 q7
  have v2 := w_value (h := stH h p g) (w := w) (V := V) (RF_pI (RF_pI H _ _ _) _ _ _) hw q9 q8
  unfold stH at v1 v2 ⊢
  simp only [f_X11_goesStep, o10, o00, bh, isO, inR, ck_true, bind_some9, Nat.reduceLeDiff, Nat.reduceEqDiff, and_self, and_true, true_and, false_and, and_false, not_false_eq_true, not_true_eq_false, or_self, or_false, false_or, if_true, if_false, reduceIte, RF_o H, RF_1209 H, RO_620 H, RL_620 H, RF_1210 H, RO_621 H, RL_621 H, RF_1214 H, RO_624 H, RL_624 H, RF_1215 H, RO_625 H, RL_625 H, RF_1216 H, RO_626 H, RL_626 H, RF_1217 H, RO_627 H, RL_627 H, RF_1218 H, RO_628 H, RL_628 H, RF_1219 H, RO_629 H, RL_629 H, RF_1220 H, RO_630 H, RL_630 H, RF_1242 H, RO_650 H, RL_650 H, RF_1245 H, RO_653 H, RL_653 H, zR_pE, zT_pE, zL_pE, zn_pE, zE_pE, zI_pE, zR_pI, zT_pI, zL_pI, zn_pI, zE_pI, zI_pI, nx, gx, lx, q1, nt, gt, lt, q2, q3, q4, q5, c1, c2, zi_one, zi_add, nk, gk, lk, v1, v2, q6, zi_8, n8, g8, l8, ho, ko_14_0, ko_14_1, ko_14_2, ko_14_3, ko_14_4, ko_14_5, ko_14_6, ko_14_7, ko_14_8, ko_14_9, ko_14_10, ko_14_11, ko_14_12, ko_14_13]
  exact bind_id _

/-! THE WALK OF THE REFERENCE, STEP BY STEP -/
theorem ko_6_e : (nI 6 = (6 : Int32)) = True := eq_true (by decide)
theorem kq_46 : ((4 : Int32) = 6) = False := eq_false (by decide)
theorem ko_66 : ((6 : Int32) = 6) = True := eq_self _
/-- a step as the reference has it -/
def stAt (h : Hp) (K : Nat) (q : StpQ) : Prop :=
  (∃ it, it < 8 ∧ zE h 625 K = nI it ∧ (stSets q.1 → q.2.1 = nI it)) ∧ vlOK (zE h 626 K) (zE h 627 K) ∧ vlOK (zE h 628 K) (zE h 629 K) ∧
  ∃ op, zE h 624 K = nI op ∧ (op ≠ 7 → op ≠ 13 → ∀ V, vlOf V (zE h 626 K) (zE h 627 K) = valOf V q.2.2.2.1) ∧ ((op = 1 ∨ op = 2 ∨ op = 3 ∨ op = 4 ∨ op = 5 ∨ op = 11) → ∀ V, vlOf V (zE h 628 K) (zE h 629 K) = valOf V q.2.2.2.2) ∧
    ((op = 0 ∧ q.1 = 43 ∧ q.2.2.2.2 = (-1, 0)) ∨ (op = 1 ∧ q.1 = 43) ∨ (op = 2 ∧ q.1 = 45) ∨ (op = 3 ∧ q.1 = 42) ∨ (op = 4 ∧ q.1 = 60) ∨ (op = 5 ∧ q.1 = 61) ∨ (op = 6 ∧ q.1 = 65 ∧ zE h 630 K = q.2.2.1) ∨ (op = 7 ∧ q.1 = 87) ∨ (op = 8 ∧ q.1 = 67 ∧ zE h 630 K = q.2.2.1) ∨ (op = 9 ∧ q.1 = 74) ∨ (op = 10 ∧ q.1 = 84) ∨ (op = 11 ∧ q.1 = 83) ∨ (op = 12 ∧ q.1 = 73 ∧ zE h 630 K = q.2.1) ∨ (op = 13 ∧ q.1 = 71 ∧ zE h 630 K = q.2.1) ∨ (op = 14 ∧ q.1 = 69))
/-- where a step writes -/
def gsS (w : Nat) (a j : Nat) : Prop := a = 616 ∧ (j = 1263 ∨ j = 1264 ∨ j = 1265 ∨ j = 1266 ∨ j = 1267) ∨ (a = 651 ∨ a = 652 ∨ a = 656 ∨ a = 657 ∨ a = 658 ∨ a = 659) ∧ j = w ∨ a = 653 ∧ j / 8 = w
theorem gsS_rec (w : Nat) : ∀ a i, ¬ gsS w a i ∨ a < 633 ∨ 637 < a := fun a i => by unfold gsS; omega
theorem gsS_ev (w : Nat) : ∀ a j, evS w a j → ¬ gsS w a j := fun a j q => by unfold evS at q; unfold gsS; omega
theorem gsS_gt (w : Nat) : ∀ a j, gsS w a j → gtS w a j := fun a j q => by unfold gsS at q; unfold gtS; omega
theorem wtS_gs (w : Nat) : ∀ a j, wtS w a j → gsS w a j := fun a j q => by unfold wtS at q; unfold gsS; omega
theorem stAt.on {S : Nat → Nat → Prop} {h h1 : Hp} {K : Nat} {q : StpQ} (p : frx S h h1) (hs : ∀ a, 624 ≤ a → a ≤ 630 → ¬ S a K) (s : stAt h K q) : stAt h1 K q := by
  have e : ∀ a, 624 ≤ a → a ≤ 630 → zE h1 a K = zE h a K := fun a g1 g2 => p.2.2.2 a K (hs a g1 g2)
  unfold stAt at s ⊢
  rw [e 624 (by omega) (by omega), e 625 (by omega) (by omega), e 626 (by omega) (by omega), e 627 (by omega) (by omega), e 628 (by omega) (by omega), e 629 (by omega) (by omega), e 630 (by omega) (by omega)]
  exact s
/-- all that a step stands on: history, text, clock -/
def gtC (h : Hp) (N w t B : Nat) (E : List Nat) (es : List Evt) (P : Prg) (now : Int32) : Prop :=
  RF h ∧ evsAt h N w E es ∧ (N ≤ 60000 ∧ w < 64 ∧ t < 4100 ∧ B + P.length ≤ 11100) ∧ (zE h 650 w = nI t ∧ zE h 621 t = nI P.length ∧ zE h 620 t = nI B) ∧ (∀ j, j < P.length → stAt h (B + j) (stpAt P j)) ∧ zI h 1201 616 = now ∧ prgOK P ∧ hsOK P es
theorem gtC.on {h h1 : Hp} {N w t B : Nat} {E : List Nat} {es : List Evt} {P : Prg} {now : Int32} (q : gtC h N w t B E es P now) (p : frx (gsS w) h h1) : gtC h1 N w t B E es P now := by
  obtain ⟨q1, q2, q3, ⟨q4, q5, q6⟩, q7, q8, q9, q10⟩ := q
  have e : ∀ a j, (a = 650 ∨ a = 621 ∨ a = 620) → zE h1 a j = zE h a j := fun a j ha => p.2.2.2 a j (by unfold gsS; omega)
  exact ⟨q1.on p, q2.on p (fun a i _ => gsS_rec w a i) (gsS_ev w), q3, ⟨by rw [e _ _ (by omega)]; exact q4, by rw [e _ _ (by omega)]; exact q5, by rw [e _ _ (by omega)]; exact q6⟩, fun j hj => (q7 j hj).on p (fun a g1 g2 => by unfold gsS; omega), by rw [p.2.2.1 1201 (by unfold gsS; omega)]; exact q8, q9, q10⟩
/-- it goes: k events seen, the walker W -/
def gtH (h : Hp) (w : Nat) (es : List Evt) (P : Prg) (k : Nat) (W : Wkr) : Prop := gtF h w (wkS W) k (wkT W) (wkC W) (wkN W) (wkV W) ∧ zE h 651 w = nI 6 ∧ wkP W = 5 ∧ (1 ≤ k ∧ k ≤ es.length) ∧ wkG P (es.take k) W ∧ ∃ n, 200 < wkN W + n ∧ (wkRun P (rpO es) 0 (es.take k) n W).2 = hR P es k
/-- it has come to where its events end -/
def gtZ (h : Hp) (w : Nat) (es : List Evt) (P : Prg) (now : Int32) : Prop := zE h 651 w = nI (wkP (rpR P es)) ∧ (zI h 1265 616 = nI (wkT (rpR P es)) ∧ zI h 1266 616 = nI (wkC (rpR P es))) ∧ (∀ v, v < 8 → zE h 653 (8 * w + v) = wkV (rpR P es) v) ∧ (wkP (rpR P es) = 4 → zE h 652 w = wkO (rpR P es)) ∧ (wkP (rpR P es) = 1 → zE h 659 w = wkA (rpR P es)) ∧ (wkP (rpR P es) = 5 → ∃ kd a b, wkWish P (rpO es) now (rpR P es) = some (kd, a, b) ∧ kd < 16 ∧ zE h 656 w = nI kd ∧ zE h 657 w = a ∧ zE h 658 w = b)
/-- what a step comes to -/
def gtN (h : Hp) (w : Nat) (es : List Evt) (P : Prg) (now : Int32) (k : Nat) (W : Wkr) : Prop := gtZ h w es P now ∨ ∃ k1 W1, gtH h w es P k1 W1 ∧ ((es.length - k1) * 300 + (201 - wkN W1) < (es.length - k) * 300 + (201 - wkN W))
theorem wt_next {h h1 : Hp} {w how k : Nat} {es : List Evt} {P : Prg} {W : Wkr} {now : Int32} (hP : prgOK P) (hs : hsOK P es) (d : wtEnd P es w how k W h h1) (hWp : wkP W = how) (hh : how ≤ 3) (h6 : zE h 651 w = nI 6) (ht : how = 1 → zE h1 659 w = wkA W) :
    gtZ h1 w es P now ∨ ∃ k1 W1, gtH h1 w es P k1 W1 ∧ k < k1 ∧ k1 ≤ es.length := by
  rcases d with ⟨d1, d2, ⟨⟨-, -, d3, d4, -⟩, d5⟩⟩ | ⟨d1, d2, d3, ⟨⟨-, -, d4, d5, -⟩, d6⟩, d7, d8, d9⟩ | ⟨k1, d1, d2, d3, d4, d5⟩
  · left
    rw [hR_all] at d2
    unfold gtZ
    rw [d2]
    exact ⟨by rw [hWp]; exact d1, ⟨d3, d4⟩, d5, fun q => by omega, fun q => ht (by omega), fun q => by omega⟩
  · left
    rw [hR_all] at d2 d3 d7 d8 d9
    unfold gtZ
    rw [d2, d7, d8, d9]
    exact ⟨d1, ⟨d4, d5⟩, d6, fun _ => d3, fun q => absurd q (by decide), fun q => absurd q (by decide)⟩
  · right
    have g := (wkG_all hP hs k1 (by omega) d2).1
    exact ⟨k1, hA P es k1, ⟨d5, by rw [d3]; exact h6, d4, ⟨by omega, d2⟩, g, 201, by omega, by rw [hR_def, rpO_take (by omega)]⟩, d1, d2⟩
theorem w_own_more {h : Hp} (H : RF h) {w k : Nat} {kd a b : Int32} (hw : w < 64) (h1 : zE h 649 w = nI k) (h2 : zI h 1264 616 = nI k) (hk : k ≤ 60) : f_X11_own 616 (nI w) kd a b h = some (0, pE (pE (pE (pE h 651 w 5) 656 w kd) 657 w a) 658 w b) := by
  have nx : (nI w).toNatClampNeg = w := zi_nat (by omega)
  have gx : ¬ nI w < 0 := zi_neg (by omega)
  have lx : ¬ 64 ≤ w := by omega
  have c1 : nI k ≤ nI k := (zi_le (by omega) (by omega)).mpr (Nat.le_refl _)
  simp only [f_X11_own, o10, o00, bh, isO, inR, ck_true, bind_some9, Nat.reduceLeDiff, Nat.reduceEqDiff, and_self, and_true, true_and, false_and, and_false, not_false_eq_true, not_true_eq_false, or_self, or_false, false_or, if_true, if_false, reduceIte, RF_o H, RF_1241 H, RO_649 H, RL_649 H, RF_1243 H, RO_651 H, RL_651 H, RF_1248 H, RO_656 H, RL_656 H, RF_1249 H, RO_657 H, RL_657 H, RF_1250 H, RO_658 H, RL_658 H, zR_pE, zT_pE, zL_pE, zn_pE, zE_pE, zI_pE, zR_pI, zT_pI, zL_pI, zn_pI, zE_pI, zI_pI, nx, gx, lx, h1, h2, c1]
theorem w_own_next {h : Hp} (H : RF h) {N w k : Nat} {E : List Nat} {es : List Evt} {kd a b : Int32} (hw : w < 64) (hN : N ≤ 60000) (ev : evsAt h N w E es) (hk : k < es.length) (h2 : zI h 1264 616 = nI k) (h6 : zE h 651 w = nI 6) :
    f_X11_own 616 (nI w) kd a b h = some (if (evAt es k).1 < 10 then (1, pI h 1264 616 (nI (k + 1))) else (0, pE (pE (pI h 1264 616 (nI (k + 1))) 651 w 4) 652 w (evAt es k).2.1)) := by
  have nx : (nI w).toNatClampNeg = w := zi_nat (by omega)
  have gx : ¬ nI w < 0 := zi_neg (by omega)
  have lx : ¬ 64 ≤ w := by omega
  have hes := ev.2.1.2
  have c1 : ¬ nI es.length ≤ nI k := zi_le0 (by omega) (by omega) (by omega)
  obtain ⟨i, rn, rt, hi, hrn, hK, hiE, hrec⟩ := ev.at hk
  have eE := w_event H hw (by omega) hiE
  have eK : f_X11_kindOf 616 (nI i) (pI h 1264 616 (nI (k + 1))) = some (nI (evAt es k).1, pI h 1264 616 (nI (k + 1))) := w_kind (RF_pI H _ _ _) (by omega) hrec hK hrn
  have rA : zE h 635 i = (evAt es k).2.1 := hrec.2.2.1
  have hend := w_hasEnded (RF_pI H 1264 616 (nI (k + 1))) (w := w) (i := i) (v := (evAt es k).2.1) hw (by omega) rA
  have c10 : nI (evAt es k).1 < (10 : Int32) ↔ (evAt es k).1 < 10 := zi_lt (b := 10) (by omega) (by omega)
  by_cases c : (evAt es k).1 < 10
  · rw [if_pos c]
    simp only [f_X11_own, o10, o00, bh, isO, inR, ck_true, bind_some9, Nat.reduceLeDiff, Nat.reduceEqDiff, and_self, and_true, true_and, false_and, and_false, not_false_eq_true, not_true_eq_false, or_self, or_false, false_or, if_true, if_false, reduceIte, RF_o H, RF_1241 H, RO_649 H, RL_649 H, RF_1243 H, RO_651 H, RL_651 H, RF_1248 H, RO_656 H, RL_656 H, RF_1249 H, RO_657 H, RL_657 H, RF_1250 H, RO_658 H, RL_658 H, zR_pE, zT_pE, zL_pE, zn_pE, zE_pE, zI_pE, zR_pI, zT_pI, zL_pI, zn_pI, zE_pI, zI_pI, nx, gx, lx, ev.1, h2, c1, eE, eK, zi_one, c10, c, h6, ko_6_e]
  · rw [if_neg c]
    simp only [f_X11_own, o10, o00, bh, isO, inR, ck_true, bind_some9, Nat.reduceLeDiff, Nat.reduceEqDiff, and_self, and_true, true_and, false_and, and_false, not_false_eq_true, not_true_eq_false, or_self, or_false, false_or, if_true, if_false, reduceIte, RF_o H, RF_1241 H, RO_649 H, RL_649 H, RF_1243 H, RO_651 H, RL_651 H, RF_1248 H, RO_656 H, RL_656 H, RF_1249 H, RO_657 H, RL_657 H, RF_1250 H, RO_658 H, RL_658 H, zR_pE, zT_pE, zL_pE, zn_pE, zE_pE, zI_pE, zR_pI, zT_pI, zL_pI, zn_pI, zE_pI, zI_pI, nx, gx, lx, ev.1, h2, c1, eE, eK, zi_one, c10, c, hend, kq_46]
/-- the run of a walker that needs no event goes on behind its step -/
theorem run_walk {P : Prg} {o : Int32} {es : List Evt} {W R : Wkr} {n : Nat} (h5 : wkP W = 5) (hw : wkWish P o 0 W = none) (hN : wkN W < 200) (hn : 200 < wkN W + n) (hr : (wkRun P o 0 es n W).2 = R) : ∃ m, n = m + 1 ∧ (wkRun P o 0 es m (wkWalk P es W)).2 = R := by
  obtain ⟨m, rfl⟩ : ∃ m, n = m + 1 := ⟨n - 1, by omega⟩
  refine ⟨m, rfl, ?_⟩
  rw [← hr]
  conv => rhs; unfold wkRun
  rw [if_neg (fun q => q h5), hw]
theorem run_done {P : Prg} {o : Int32} {es : List Evt} {W R : Wkr} {n : Nat} (hd : wkDone P o W) (hr : (wkRun P o 0 es n W).2 = R) : R = W := by
  cases n with
  | zero => exact hr.symm
  | succ n => rw [wkRun_done hd] at hr; exact hr.symm
theorem w_own_M {h : Hp} {N w t B k kd : Nat} {E : List Nat} {es : List Evt} {P : Prg} {now a b : Int32} {W : Wkr} (C : gtC h N w t B E es P now) (s1 : zI h 1264 616 = nI k) (s2 : zI h 1265 616 = nI (wkT W)) (s3 : zI h 1266 616 = nI (wkC W)) (s4 : ∀ v, v < 8 → zE h 653 (8 * w + v) = wkV W v) (h6 : zE h 651 w = nI 6) (hk1 : 1 ≤ k) (hk : k ≤ es.length) (hR9 : hR P es k = W) (h5 : wkP W = 5) (hw : wkWish P (rpO es) now W = some (kd, a, b)) (hkd : kd < 16) :
    ∃ r h1, f_X11_own 616 (nI w) (nI kd) a b h = some (r, h1) ∧ frx (gsS w) h h1 ∧ ((r = 0 ∧ gtZ h1 w es P now) ∨ (r = 1 ∧ h1 = pI h 1264 616 (nI (k + 1)) ∧ k < es.length ∧ (evAt es k).1 = kd ∧ kd < 10 ∧ hA P es (k + 1) = wkTake P W (evAt es k))) := by
  obtain ⟨H, ev, ⟨hN, hw64, -, -⟩, -, -, -, -, hs⟩ := C
  have hes := hs.2.1
  by_cases c : k = es.length
  · have RW : rpR P es = W := by rw [← hR_all, ← c]; exact hR9
    refine ⟨0, _, w_own_more H hw64 (by rw [ev.1, c]) s1 (by omega), ?_, Or.inl ⟨rfl, ?_⟩⟩
    · exact (((frx_pE (by unfold gsS; omega)).trans (frx_pE (by unfold gsS; omega))).trans (frx_pE (by unfold gsS; omega))).trans (frx_pE (by unfold gsS; omega))
    · unfold gtZ
      rw [RW, h5]
      refine ⟨?_, ⟨s2, s3⟩, fun v hv => ?_, fun q => absurd q (by decide), fun q => absurd q (by decide), fun _ => ⟨kd, a, b, hw, hkd, ?_, ?_, ?_⟩⟩
      · simp only [zE_pE, Nat.reduceEqDiff, false_and, and_self, if_false, if_true]; rfl
      · simp only [zE_pE, Nat.reduceEqDiff, false_and, if_false]; exact s4 v hv
      · simp only [zE_pE, Nat.reduceEqDiff, false_and, and_self, if_false, if_true]
      · simp only [zE_pE, Nat.reduceEqDiff, false_and, and_self, if_false, if_true]
      · simp only [zE_pE, and_self, if_true]
  · have hkl : k < es.length := by omega
    have ok := hs.2.2.2 k hk1 hkl
    have nA := hA_next (P := P) hk1 hkl
    rw [hR9] at nA
    have RW : rpR P (es.take k) = W := hR9
    have ow := evOK_wish ok (by rw [RW]; exact h5)
    rw [RW, rpO_take hk1] at ow
    have e := w_own_next (kd := nI kd) (a := a) (b := b) H hw64 hN ev hkl s1 h6
    by_cases c10 : (evAt es k).1 < 10
    · rw [if_pos c10] at e
      rcases ow with ow | ⟨n9, ow⟩
      · omega
      · have kk := wkWish_kind P (rpO es) now n9 W
        rw [hw, ow] at kk
        have kk : kd = (evAt es k).1 := Option.some.inj kk
        exact ⟨1, _, e, frx_pI (by unfold gsS; omega), Or.inr ⟨rfl, rfl, hkl, kk.symm, by omega, nA⟩⟩
    · rw [if_neg c10] at e
      refine ⟨0, _, e, ((frx_pI (by unfold gsS; omega)).trans (frx_pE (by unfold gsS; omega))).trans (frx_pE (by unfold gsS; omega)), Or.inl ⟨rfl, ?_⟩⟩
      have tk : wkTake P W (evAt es k) = (wkV W, wkS W, wkN W, 4, wkA W, wkT W, wkC W, (evAt es k).2.1) := by
        unfold wkTake
        rw [if_neg (by omega), if_neg (by omega), if_neg (by omega), if_neg (by omega), if_neg (by omega), if_neg (by omega), if_neg (by omega), if_neg (by omega)]
      rw [tk] at nA
      have hR1 : hR P es (k + 1) = hA P es (k + 1) := hR_wait (by rw [nA]; show 4 ≠ 5; decide)
      have ek : k + 1 = es.length := hR_ended hs (by omega) (by omega) (by rw [hR1, nA])
      have RR : rpR P es = (wkV W, wkS W, wkN W, 4, wkA W, wkT W, wkC W, (evAt es k).2.1) := by rw [← hR_all, ← ek, hR1, nA]
      unfold gtZ
      rw [RR]
      refine ⟨?_, ⟨s2, s3⟩, fun v hv => ?_, fun _ => ?_, fun q => absurd q (show ¬ 4 = 1 by decide), fun q => absurd q (show ¬ 4 = 5 by decide)⟩
      · simp only [zE_pE, Nat.reduceEqDiff, false_and, and_self, if_false, if_true]; rfl
      · simp only [zE_pE, zE_pI, Nat.reduceEqDiff, false_and, if_false]; exact s4 v hv
      · simp only [zE_pE, and_self, if_true]
/-- a step's place, out of all that it stands on -/
theorem gt_ctx {h : Hp} {N w t B k : Nat} {E : List Nat} {es : List Evt} {P : Prg} {now : Int32} {W : Wkr} (C : gtC h N w t B E es P now) (G : gtH h w es P k W) (hS : wkS W < P.length) (hN : wkN W < 200) : ∃ it, zE h 625 (B + wkS W) = nI it ∧ (stSets (stpAt P (wkS W)).1 → (stpAt P (wkS W)).2.1 = nI it) ∧ it < 8 ∧ stCtx h w t P.length B (wkS W) (wkN W) it (wkV W) := by
  obtain ⟨H, ev, ⟨hN6, hw64, ht, hB⟩, ⟨c1, c2, c3⟩, hst, -, hP, -⟩ := C
  obtain ⟨⟨⟨g1, g2, g3, g4, g5⟩, g6⟩, -⟩ := G
  obtain ⟨⟨it, i1, i2, i3⟩, v1, v2, -⟩ := hst (wkS W) hS
  exact ⟨it, i2, i3, i1, hw64, ht, by omega, hS, hP.1, hN, i1, c1, c2, c3, g1, g5, i2, v1, v2, g6⟩
theorem gtF_stH {h : Hp} {w p k t b g : Nat} {V : Nat → Int32} (q : gtF h w p k t b g V) : gtF (stH h p g) w (p + 1) k t b (g + 1) V := by
  obtain ⟨⟨q1, q2, q3, q4, q5⟩, q6⟩ := q
  unfold stH
  refine ⟨⟨?_, ?_, ?_, ?_, ?_⟩, fun v hv => q6 v hv⟩ <;> simp only [zI_pI, Nat.reduceEqDiff, false_and, and_self, if_false, if_true] <;> assumption
theorem gtF_pc {h : Hp} {w p k t b g : Nat} {V : Nat → Int32} (q : gtF h w p k t b g V) (p1 : Nat) : gtF (pI h 1263 616 (nI p1)) w p1 k t b g V := by
  obtain ⟨⟨q1, q2, q3, q4, q5⟩, q6⟩ := q
  refine ⟨⟨?_, ?_, ?_, ?_, ?_⟩, fun v hv => q6 v hv⟩ <;> simp only [zI_pI, Nat.reduceEqDiff, false_and, and_self, if_false, if_true] <;> assumption
theorem gtF_born {h : Hp} {w p k t b g : Nat} {V : Nat → Int32} (q : gtF h w p k t b g V) (b1 : Nat) : gtF (pI h 1266 616 (nI b1)) w p k t b1 g V := by
  obtain ⟨⟨q1, q2, q3, q4, q5⟩, q6⟩ := q
  refine ⟨⟨?_, ?_, ?_, ?_, ?_⟩, fun v hv => q6 v hv⟩ <;> simp only [zI_pI, Nat.reduceEqDiff, false_and, and_self, if_false, if_true] <;> assumption
theorem stH_fr (h : Hp) (w p g : Nat) : frx (gsS w) h (stH h p g) := (frx_pI (by unfold gsS; omega)).trans (frx_pI (by unfold gsS; omega))
/-- a walk that stays going -/
theorem gt_walk {h h1 : Hp} {w k : Nat} {es : List Evt} {P : Prg} {now : Int32} {W : Wkr} (hP : prgOK P) (G : gtH h w es P k W) (hN : wkN W < 200) (hw : wkWish P (rpO es) 0 W = none) (h5 : wkP (wkWalk P (es.take k) W) = 5) (hn1 : wkN (wkWalk P (es.take k) W) = wkN W + 1) (f : gtF h1 w (wkS (wkWalk P (es.take k) W)) k (wkT (wkWalk P (es.take k) W)) (wkC (wkWalk P (es.take k) W)) (wkN (wkWalk P (es.take k) W)) (wkV (wkWalk P (es.take k) W))) (h6 : zE h1 651 w = nI 6) : gtN h1 w es P now k W := by
  obtain ⟨-, -, g5, gk, gG, n, gn, gr⟩ := G
  obtain ⟨m, rfl, hm⟩ := run_walk g5 hw hN gn gr
  exact Or.inr ⟨k, _, ⟨f, h6, h5, gk, wkG_walk hP gG g5 hw, m, by omega, hm⟩, by omega⟩
/-- an end of waiting, as what a step comes to -/
theorem wt_gtN {h h1 : Hp} {w how k k0 : Nat} {es : List Evt} {P : Prg} {W U : Wkr} {now : Int32} (hP : prgOK P) (hs : hsOK P es) (d : wtEnd P es w how k W h h1) (hWp : wkP W = how) (hh : how ≤ 3) (h6 : zE h 651 w = nI 6) (ht : how = 1 → zE h1 659 w = wkA W) (hk : k0 ≤ k) (hU : wkN U ≤ 200) : gtN h1 w es P now k0 U := by
  rcases wt_next (now := now) hP hs d hWp hh h6 ht with z | ⟨k1, W1, g, g1, g2⟩
  · exact Or.inl z
  · refine Or.inr ⟨k1, W1, g, ?_⟩
    have : (es.length - k1) * 300 + 300 ≤ (es.length - k0) * 300 := by
      have : es.length - k1 + 1 ≤ es.length - k0 := by omega
      calc (es.length - k1) * 300 + 300 = (es.length - k1 + 1) * 300 := by omega
        _ ≤ (es.length - k0) * 300 := Nat.mul_le_mul_right _ this
    omega
/-! WHAT EACH STEP COMES TO -/
section OneStep
variable {h : Hp} {N w t B k : Nat} {E : List Nat} {es : List Evt} {P : Prg} {now : Int32} {W : Wkr}
theorem wish_none {o : Int32} (hS : wkS W < P.length) (hN : wkN W < 200) (h1 : (stpAt P (wkS W)).1 ≠ 65) (h2 : (stpAt P (wkS W)).1 ≠ 84) (h3 : (stpAt P (wkS W)).1 ≠ 67) (h4 : (stpAt P (wkS W)).1 ≠ 83 ∨ hasKin o W (valOf (wkV W) (stpAt P (wkS W)).2.2.2.1) = false) (h5 : (stpAt P (wkS W)).1 ≠ 69) : wkWish P o 0 W = none := by
  unfold wkWish
  rw [if_neg (by omega), if_neg (by omega)]
  simp only []
  rw [if_neg h1, if_neg h2, if_neg h3]
  by_cases c : (stpAt P (wkS W)).1 = 83
  · rw [if_pos c, h4.resolve_left (fun q => q c)]; rfl
  · rw [if_neg c, if_neg h5]
theorem s_set (C : gtC h N w t B E es P now) (G : gtH h w es P k W) (hS : wkS W < P.length) (hN : wkN W < 200) {c : Int32} (hc : (stpAt P (wkS W)).1 = c) (hl : c = 43 ∨ c = 45 ∨ c = 42 ∨ c = 60 ∨ c = 61) {it : Nat} (hit : it < 8) (hg : (stpAt P (wkS W)).2.1 = nI it) {v : Int32} (hv : v = reckon c (valOf (wkV W) (stpAt P (wkS W)).2.2.2.1) (valOf (wkV W) (stpAt P (wkS W)).2.2.2.2)) (e : f_X11_goesStep 616 (nI w) h = some (pE (stH h (wkS W) (wkN W)) 653 (8 * w + it) v)) :
    ∃ h1, f_X11_goesStep 616 (nI w) h = some h1 ∧ frx (gsS w) h h1 ∧ gtN h1 w es P now k W := by
  have n9 : ∀ x : Int32, (c = x → False) → (stpAt P (wkS W)).1 ≠ x := fun x hx q => hx (hc.symm.trans q)
  have hw : wkWish P (rpO es) 0 W = none := wish_none hS hN (n9 _ (fun q => by rw [q] at hl; exact absurd hl (by decide))) (n9 _ (fun q => by rw [q] at hl; exact absurd hl (by decide))) (n9 _ (fun q => by rw [q] at hl; exact absurd hl (by decide))) (Or.inl (n9 _ (fun q => by rw [q] at hl; exact absurd hl (by decide)))) (n9 _ (fun q => by rw [q] at hl; exact absurd hl (by decide)))
  have hW : wkWalk P (es.take k) W = wkSet P W v := by
    unfold wkWalk
    simp only []
    rw [if_neg (n9 _ (fun q => by rw [q] at hl; exact absurd hl (by decide))), if_neg (n9 _ (fun q => by rw [q] at hl; exact absurd hl (by decide))), if_neg (n9 _ (fun q => by rw [q] at hl; exact absurd hl (by decide))), if_neg (n9 _ (fun q => by rw [q] at hl; exact absurd hl (by decide))), if_neg (n9 _ (fun q => by rw [q] at hl; exact absurd hl (by decide))), hv, hc]
  have eS : wkSet P W v = (upf (wkV W) it v, wkS W + 1, wkN W + 1, wkP W, wkA W, wkT W, wkC W, wkO W) := by
    unfold wkSet
    rw [if_pos hS, hg, zi_nat (by omega)]
  refine ⟨_, e, (stH_fr h w _ _).trans (frx_pE (by unfold gsS; omega)), ?_⟩
  refine gt_walk C.2.2.2.2.2.2.1 G hN hw ?_ ?_ ?_ ?_
  · rw [hW, eS]; exact G.2.2.1
  · rw [hW, eS]
  · rw [hW, eS]
    exact gtF_put (gtF_stH G.1) hit v
  · simp only [zE_pE, Nat.reduceEqDiff, false_and, if_false]; exact G.2.1
theorem s_jump (C : gtC h N w t B E es P now) (G : gtH h w es P k W) (hS : wkS W < P.length) (hN : wkN W < 200) {p1 : Nat} (hc : (stpAt P (wkS W)).1 = 71 ∨ (stpAt P (wkS W)).1 = 73 ∨ ((stpAt P (wkS W)).1 = 83 ∧ hasKin (rpO es) W (valOf (wkV W) (stpAt P (wkS W)).2.2.2.1) = false)) (hW : wkWalk P (es.take k) W = wkLeave W p1) {h1 : Hp} (e : f_X11_goesStep 616 (nI w) h = some h1) (hh1 : h1 = pI (stH h (wkS W) (wkN W)) 1263 616 (nI p1)) :
    ∃ h1, f_X11_goesStep 616 (nI w) h = some h1 ∧ frx (gsS w) h h1 ∧ gtN h1 w es P now k W := by
  have n9 : ∀ x : Int32, x ≠ 71 → x ≠ 73 → x ≠ 83 → (stpAt P (wkS W)).1 ≠ x := fun x a1 a2 a3 q => by
    rcases hc with hc | hc | ⟨hc, -⟩
    · exact a1 (q.symm.trans hc)
    · exact a2 (q.symm.trans hc)
    · exact a3 (q.symm.trans hc)
  have hw : wkWish P (rpO es) 0 W = none := wish_none hS hN (n9 _ (by decide) (by decide) (by decide)) (n9 _ (by decide) (by decide) (by decide)) (n9 _ (by decide) (by decide) (by decide)) (by
    rcases hc with hc | hc | ⟨-, hc⟩
    · left; rw [hc]; decide
    · left; rw [hc]; decide
    · right; exact hc) (n9 _ (by decide) (by decide) (by decide))
  refine ⟨_, e, by rw [hh1]; exact (stH_fr h w _ _).trans (frx_pI (by unfold gsS; omega)), ?_⟩
  refine gt_walk C.2.2.2.2.2.2.1 G hN hw ?_ ?_ ?_ ?_
  · rw [hW]; exact G.2.2.1
  · rw [hW]; rfl
  · rw [hW, hh1]
    exact gtF_pc (gtF_stH G.1) p1
  · rw [hh1]; exact G.2.1
/-- it comes to wait for a signal or a child -/
theorem s_rest (C : gtC h N w t B E es P now) (G : gtH h w es P k W) (hS : wkS W < P.length) (hN : wkN W < 200) {it how : Nat} {a : Int32} (hit : it < 8) (hg : (stpAt P (wkS W)).2.1 = nI it) (hh : how = 2 ∨ how = 3) (hw : wkWish P (rpO es) 0 W = none) (hW : wkWalk P (es.take k) W = wkRest W how a) :
    ∃ h1, f_X11_waits 616 (nI w) (nI how) a (nI it) (stH h (wkS W) (wkN W)) = some h1 ∧ frx (gsS w) h h1 ∧ gtN h1 w es P now k W := by
  obtain ⟨H, ev, ⟨hN6, hw64, -, -⟩, -, -, -, hP, hs⟩ := id C
  obtain ⟨g1, g6, g5, ⟨gk1, gk⟩, gG, n, gn, gr⟩ := G
  obtain ⟨m, rfl, hm⟩ := run_walk g5 hw hN gn gr
  have hRk : hR P es k = wkRest W how a := by
    have := run_done (P := P) (o := rpO es) (es := es.take k) (W := wkWalk P (es.take k) W) (Or.inl (by rw [hW]; show how ≠ 5; omega)) hm
    rw [this, hW]
  have f0 := stH_fr h w (wkS W) (wkN W)
  have C0 := C.on f0
  have hT : wkT W ≤ 60 := by
    have := gG.2.2.1
    have := sigs_le (es.take k)
    rw [List.length_take] at this
    have := hs.2.1
    omega
  obtain ⟨h1, e1, f1, d1⟩ := w_waits (W := wkRest W how a) (how := how) (child := a) (v := it) C0.1 hw64 hN6 hs hit (by omega) (Or.inl hg) hS rfl (fun _ => rfl) hT C0.2.1 (gtF_stH g1) gk1 gk hRk
  refine ⟨h1, e1, f0.trans (f1.mono (wtS_gs w)), ?_⟩
  exact wt_gtN hP hs d1 rfl (by omega) g6 (fun q => by omega) (Nat.le_refl k) gG.2.1
end OneStep
