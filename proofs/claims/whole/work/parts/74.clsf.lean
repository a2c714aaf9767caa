/-! THE FOUR SHARDS, IN THE CLASS -/
def tpC (h : Hp) : Prop := (isO h 8 11 ∧ zR h 1100 8 = 9 ∧ zR h 1101 8 = 14 ∧ zR h 1102 8 = 15 ∧ zR h 1103 8 = 13) ∧ isO h 13 26 ∧ zL h 13 = 4 ∧ ∀ s, s < 4 → zQ h 13 s = shA s
theorem tpC.on {h h1 : Hp} {S : Nat → Nat → Prop} (k : tpC h) (f : cf S h h1) (hS : ∀ j, 1100 ≤ j → j ≤ 1103 → ¬ S 8 j) (h2 : ∀ j, ¬ S 13 j) : tpC h1 := by
  obtain ⟨⟨o, r0, r1, r2, r3⟩, o3, l3, q3⟩ := k
  refine ⟨⟨f.O o, by rw [f.R o (hS _ (by omega) (by omega))]; exact r0, by rw [f.R o (hS _ (by omega) (by omega))]; exact r1, by rw [f.R o (hS _ (by omega) (by omega))]; exact r2, by rw [f.R o (hS _ (by omega) (by omega))]; exact r3⟩, f.O o3, ?_, fun s hs => ?_⟩
  · rw [(f.2.1 13 o3.2.1).2]; exact l3
  · rw [(f.2.2 13 s o3.2.1 (h2 s)).2.2.2.2.1]; exact q3 s hs
def CW (vs : Nat → List Prg) (now : Int32) (h : Hp) (own : Nat → Nat) (u : Nat → Nat → Nat) (v : Nat → Nat) (W : Wld) : Prop := cxC h own vs now ∧ tpC h ∧ ∀ s, s < 4 → shC h own s (u s) (v s) (W s)
def sum4 (f : Nat → Nat) : Nat := f 0 + f 1 + f 2 + f 3
theorem sum4_up (f : Nat → Nat) {s : Nat} (hs : s < 4) (x : Nat) : sum4 (upf f s x) + f s = sum4 f + x := by
  have : s = 0 ∨ s = 1 ∨ s = 2 ∨ s = 3 := by omega
  rcases this with e | e | e | e <;> (rw [e]; unfold sum4 upf; simp only [if_true, if_false, show ¬ (0 : Nat) = 1 by decide, show ¬ (0 : Nat) = 2 by decide, show ¬ (0 : Nat) = 3 by decide, show ¬ (1 : Nat) = 0 by decide, show ¬ (1 : Nat) = 2 by decide, show ¬ (1 : Nat) = 3 by decide, show ¬ (2 : Nat) = 0 by decide, show ¬ (2 : Nat) = 1 by decide, show ¬ (2 : Nat) = 3 by decide, show ¬ (3 : Nat) = 0 by decide, show ¬ (3 : Nat) = 1 by decide, show ¬ (3 : Nat) = 2 by decide]; omega)
def usm (u : Nat → Nat → Nat) : Nat := sum4 (fun s => usum (u s))
theorem usm_up (u : Nat → Nat → Nat) {s : Nat} (hs : s < 4) (x : Nat → Nat) : usm (upf u s x) + usum (u s) = usm u + usum x := by
  unfold usm
  have e : (fun t => usum (upf u s x t)) = upf (fun t => usum (u t)) s (usum x) := by
    funext t
    unfold upf
    by_cases c : t = s
    · rw [if_pos c, if_pos c]
    · rw [if_neg c, if_neg c]
  rw [e]
  exact sum4_up (fun t => usum (u t)) hs (usum x)
def acW (h : Hp) (own : Nat → Nat) (u : Nat → Nat → Nat) (v : Nat → Nat) (h1 : Hp) (own1 : Nat → Nat) (u1 : Nat → Nat → Nat) (v1 : Nat → Nat) : Prop := exO own own1 h ∧ cf (fun a _ => own a < 40) h h1 ∧ zs h1 + 1024 * usm u + 96 * sum4 v ≤ zs h + 1024 * usm u1 + 96 * sum4 v1 ∧ zn h1 + usm u + 3 * sum4 v ≤ zn h + usm u1 + 3 * sum4 v1
theorem acW.rf (h : Hp) (own : Nat → Nat) (u : Nat → Nat → Nat) (v : Nat → Nat) : acW h own u v h own u v := ⟨exO.rf own h, cf.rf h, Nat.le_refl _, Nat.le_refl _⟩
theorem acW.tr {h h1 h2 : Hp} {own own1 own2 : Nat → Nat} {u u1 u2 : Nat → Nat → Nat} {v v1 v2 : Nat → Nat} (p : acW h own u v h1 own1 u1 v1) (q : acW h1 own1 u1 v1 h2 own2 u2 v2) : acW h own u v h2 own2 u2 v2 := by
  obtain ⟨p1, p2, p3, p4⟩ := p
  obtain ⟨q1, q2, q3, q4⟩ := q
  exact ⟨p1.tr q1 p2.1, p2.tr2 q2 (fun a j ha z => by rw [p1 a ha] at z; exact z), by omega, by omega⟩
theorem CW.one {vs : Nat → List Prg} {now : Int32} {h : Hp} {own : Nat → Nat} {u : Nat → Nat → Nat} {v : Nat → Nat} {W : Wld} (R : CW vs now h own u v W) {t : Nat} (ht : t < 4) {h1 : Hp} {own1 u1 : Nat → Nat} {v1 : Nat} {q1 : Shd} (x2 : shC h1 own1 t u1 v1 q1) (x3 : acC t h own (u t) (v t) h1 own1 u1 v1) : CW vs now h1 own1 (upf u t u1) (upf v t v1) (upf W t q1) ∧ acW h own u v h1 own1 (upf u t u1) (upf v t v1) := by
  obtain ⟨cx, tp, k⟩ := R
  have w := cx.1
  refine ⟨⟨x3.cx ht cx, tp.on x3.2.1 (fun j _ _ => ow_lo w (by omega) ht) (fun j => ow_lo w (by omega) ht), fun s hs => ?_⟩, x3.1, x3.2.1.mono (fun a j _ z => by omega), ?_, ?_⟩
  · by_cases c : s = t
    · rw [c, show upf u t u1 t = u1 from if_pos rfl, show upf v t v1 t = v1 from if_pos rfl, show upf W t q1 t = q1 from if_pos rfl]
      exact x2
    · rw [show upf u t u1 s = u s from if_neg c, show upf v t v1 s = v s from if_neg c, show upf W t q1 s = W s from if_neg c]
      exact (k s hs).off w hs x3.2.1 x3.1 (fun a j ha => by omega)
  · have a1 := usm_up u ht u1
    have a2 := sum4_up v ht v1
    have := x3.2.2.1
    omega
  · have a1 := usm_up u ht u1
    have a2 := sum4_up v ht v1
    have := x3.2.2.2
    omega
/-- what a call leaves -/
def aC (vs : Nat → List Prg) (now : Int32) (h : Hp) (own : Nat → Nat) (u : Nat → Nat → Nat) (v : Nat → Nat) (W1 : Wld) (r : Int32) (x : Option (Int32 × Hp)) : Prop := ∃ h1 own1 u1 v1, x = some (r, h1) ∧ CW vs now h1 own1 u1 v1 W1 ∧ acW h own u v h1 own1 u1 v1
theorem aC.id {vs : Nat → List Prg} {now : Int32} {h : Hp} {own : Nat → Nat} {u : Nat → Nat → Nat} {v : Nat → Nat} {W : Wld} (R : CW vs now h own u v W) (r : Int32) : aC vs now h own u v W r (some (r, h)) := ⟨h, own, u, v, rfl, R, acW.rf h own u v⟩
def adr (o : Option (Nat × Nat)) : Nat := match o with
  | some (s, n) => wfA s n
  | none => 0
theorem wfA_ne (s n : Nat) : ¬ wfA s n = 0 := by unfold wfA shA; omega
theorem c_row {h : Hp} {own : Nat → Nat} {s v : Nat} {u : Nat → Nat} {q : Shd} (k : shC h own s u v q) {n : Nat} (hn : n < 2147483648) : f_X6_row (shA s) (nI n) h = some (if n < shN q then wfA s n else 0, h) := by
  have hN := k.2.2.2.2.1.1
  have e10 : zI h 710 (shA s) = nI (shN q) := k.2.1.2.2.2.1
  obtain ⟨⟨⟨oA, -, -, -, -, r704, -⟩, -, ⟨o2, l2, q2⟩, -, -⟩, -⟩ := id k
  have gn : ¬ nI n < 0 := zi_neg hn
  by_cases c : n < shN q
  · rw [if_pos c]
    have c1 : (nI (shN q) ≤ nI n) = False := eq_false (zi_le0 (by omega) (by omega) (by omega))
    have nn : (nI n).toNatClampNeg = n := zi_nat (by omega)
    have ln : ¬ 16 ≤ n := by omega
    have qn : zQ h (shA s + 2) n = wfA s n := q2 _ (by omega)
    simp only [f_X6_row, o10, o00, bh, isO, inR, ck_true, bind_some9, Nat.reduceLeDiff, Nat.reduceEqDiff, and_self, and_true, true_and, false_and, and_false, not_false_eq_true, not_true_eq_false, or_self, or_false, false_or, if_true, if_false, reduceIte, zR_pE, zT_pE, zL_pE, zn_pE, zE_pE, zI_pE, zQ_pE, zJ_pE, zR_pI, zT_pI, zL_pI, zn_pI, zE_pI, zI_pI, zQ_pI, zJ_pI, zR_pR, zT_pR, zL_pR, zn_pR, zE_pR, zI_pR, zQ_pR, zJ_pR, zR_pJ, zT_pJ, zL_pJ, zn_pJ, zE_pJ, zI_pJ, zQ_pJ, zJ_pJ, gn, oA, e10, c1, r704, o2, l2, nn, ln, qn]
  · rw [if_neg c]
    have c1 : (nI (shN q) ≤ nI n) = True := eq_true ((zi_le (by omega) (by omega)).mpr (by omega))
    simp only [f_X6_row, o10, o00, bh, isO, inR, ck_true, bind_some9, Nat.reduceLeDiff, Nat.reduceEqDiff, and_self, and_true, true_and, false_and, and_false, not_false_eq_true, not_true_eq_false, or_self, or_false, false_or, if_true, if_false, reduceIte, zR_pE, zT_pE, zL_pE, zn_pE, zE_pE, zI_pE, zQ_pE, zJ_pE, zR_pI, zT_pI, zL_pI, zn_pI, zE_pI, zI_pI, zQ_pI, zJ_pI, zR_pR, zT_pR, zL_pR, zn_pR, zE_pR, zI_pR, zQ_pR, zJ_pR, zR_pJ, zT_pJ, zL_pJ, zn_pJ, zE_pJ, zI_pJ, zQ_pJ, zJ_pJ, gn, oA, e10, c1]
theorem c_find {vs : Nat → List Prg} {now : Int32} {h : Hp} {own : Nat → Nat} {u : Nat → Nat → Nat} {v : Nat → Nat} {W : Wld} (R : CW vs now h own u v W) (w : Int32) : f_X10_find 8 w h = some (adr (flw W w), h) := by
  unfold flw
  by_cases c : w < 0
  · have c1 : (0 ≤ w) = False := eq_false (Int32.not_le.mpr c)
    rw [if_pos c]
    simp only [f_X10_find, o10, o00, bh, isO, inR, ck_true, bind_some9, Nat.reduceLeDiff, Nat.reduceEqDiff, and_self, and_true, true_and, false_and, and_false, not_false_eq_true, not_true_eq_false, or_self, or_false, false_or, if_true, if_false, reduceIte, zR_pE, zT_pE, zL_pE, zn_pE, zE_pE, zI_pE, zQ_pE, zJ_pE, zR_pI, zT_pI, zL_pI, zn_pI, zE_pI, zI_pI, zQ_pI, zJ_pI, zR_pR, zT_pR, zL_pR, zn_pR, zE_pR, zI_pR, zQ_pR, zJ_pR, zR_pJ, zT_pJ, zL_pJ, zn_pJ, zE_pJ, zI_pJ, zQ_pJ, zJ_pJ, c1]
    rfl
  · rw [if_neg c]
    have c1 : (0 ≤ w) = True := eq_true (Int32.not_lt.mp c)
    obtain ⟨a, ha, ea⟩ := zi_of c
    have na : (nI a).toNatClampNeg = a := zi_nat ha
    obtain ⟨⟨o8, -, -, -, r3⟩, o13, l13, q13⟩ := R.2.1
    have k := R.2.2 (a % 4) (by omega)
    have er := c_row k (n := a / 4) (by omega)
    have md : nI a - nI a / (4 : Int32) * 4 = nI (a % 4) := zi_mod (b := 4) ha (by omega) (by omega)
    have dv : nI a / (4 : Int32) = nI (a / 4) := zi_div (b := 4) ha (by omega) (by omega)
    rw [dv] at md
    have nm : (nI (a % 4)).toNatClampNeg = a % 4 := zi_nat (by omega)
    have gm : ¬ nI (a % 4) < 0 := zi_neg (by omega)
    have lm : ¬ 4 ≤ a % 4 := by omega
    have qm := q13 (a % 4) (by omega)
    have oA := k.1.1.1
    rw [ea] at c1 ⊢
    rw [na]
    have : adr (if a / 4 < shN (W (a % 4)) then some (a % 4, a / 4) else none) = if a / 4 < shN (W (a % 4)) then wfA (a % 4) (a / 4) else 0 := by
      split <;> rfl
    rw [this]
    simp only [f_X10_find, o10, o00, bh, isO, inR, ck_true, bind_some9, Nat.reduceLeDiff, Nat.reduceEqDiff, and_self, and_true, true_and, false_and, and_false, not_false_eq_true, not_true_eq_false, or_self, or_false, false_or, if_true, if_false, reduceIte, zR_pE, zT_pE, zL_pE, zn_pE, zE_pE, zI_pE, zQ_pE, zJ_pE, zR_pI, zT_pI, zL_pI, zn_pI, zE_pI, zI_pI, zQ_pI, zJ_pI, zR_pR, zT_pR, zL_pR, zn_pR, zE_pR, zI_pR, zQ_pR, zJ_pR, zR_pJ, zT_pJ, zL_pJ, zn_pJ, zE_pJ, zI_pJ, zQ_pJ, zJ_pJ, c1, o8, r3, o13, l13, dv, md, nm, gm, lm, qm, oA, er]
theorem c_org_go {vs : Nat → List Prg} {h : Hp} {own : Nat → Nat} {s v : Nat} {u : Nat → Nat} {q : Shd} {C : List Rec} (k : shC h own s u v q) (hI : ShI vs q C) (o : Int32) : ∀ (m n fuel : Nat), n + m = shN q → m < fuel → f_X6_rowWithOrigin_2 fuel (shA s) o (nI n) h = some (adr (((List.range' n m).find? (fun n => decide (flO (shF q n) = o))).map (fun n => (s, n))), h)
  | m, n, 0, _, hf => absurd hf (Nat.not_lt_zero _)
  | 0, n, fuel + 1, hn, hf => by
    have hN := k.2.2.2.2.1.1
    have e10 : zI h 710 (shA s) = nI (shN q) := k.2.1.2.2.2.1
    have c : nI (shN q) ≤ nI n := (zi_le (by omega) (by omega)).mpr (by omega)
    have oA := k.1.1.1
    simp only [f_X6_rowWithOrigin_2, o10, o00, bh, isO, inR, ck_true, bind_some9, Nat.reduceLeDiff, Nat.reduceEqDiff, and_self, and_true, true_and, false_and, and_false, not_false_eq_true, not_true_eq_false, or_self, or_false, false_or, if_true, if_false, reduceIte, zR_pE, zT_pE, zL_pE, zn_pE, zE_pE, zI_pE, zQ_pE, zJ_pE, zR_pI, zT_pI, zL_pI, zn_pI, zE_pI, zI_pI, zQ_pI, zJ_pI, zR_pR, zT_pR, zL_pR, zn_pR, zE_pR, zI_pR, zQ_pR, zJ_pR, zR_pJ, zT_pJ, zL_pJ, zn_pJ, zE_pJ, zI_pJ, zQ_pJ, zJ_pJ, oA, e10, c]
    rfl
  | m + 1, n, fuel + 1, hn, hf => by
    have hN := k.2.2.2.2.1.1
    have e10 : zI h 710 (shA s) = nI (shN q) := k.2.1.2.2.2.1
    have c : (nI (shN q) ≤ nI n) = False := eq_false (zi_le0 (by omega) (by omega) (by omega))
    obtain ⟨⟨⟨oA, -, -, -, -, r704, -⟩, -, ⟨o2, l2, q2⟩, -, -⟩, -⟩ := id k
    have nn : (nI n).toNatClampNeg = n := zi_nat (by omega)
    have gn : ¬ nI n < 0 := zi_neg (by omega)
    have ln : ¬ 16 ≤ n := by omega
    have qn : zQ h (shA s + 2) n = wfA s n := q2 _ (by omega)
    have wf : wfC h (wfA s n) (s + 4 * n) (shF q n) := k.2.2.2.1 _ (by omega)
    obtain ⟨⟨oW, -, -, r1002, -⟩, -, ⟨oH, -, -, -, r203⟩, ⟨-, -, -, o6⟩, ⟨-, -, -, l6⟩, -⟩ := wf.1
    have e0 : zE h (wfA s n + 6) 0 = flO (shF q n) := (wf.2.1.2 0 _ (ev_get (hI.len (by omega : n < shN q)).1)).2.2.2
    have t00 : Int32.toNatClampNeg 0 = 0 := rfl
    have n00 : ((0 : Int32) < 0) = False := eq_false (by decide)
    have l60 : ¬ 60 ≤ 0 := by omega
    rw [List.range'_succ, List.find?_cons]
    by_cases d : flO (shF q n) = o
    · rw [decide_eq_true d]
      have d1 := eq_true d
      have : adr (Option.map (fun n => (s, n)) (some n)) = wfA s n := rfl
      simp only [this]
      simp only [f_X6_rowWithOrigin_2, o10, o00, bh, isO, inR, ck_true, bind_some9, Nat.reduceLeDiff, Nat.reduceEqDiff, and_self, and_true, true_and, false_and, and_false, not_false_eq_true, not_true_eq_false, or_self, or_false, false_or, if_true, if_false, reduceIte, zR_pE, zT_pE, zL_pE, zn_pE, zE_pE, zI_pE, zQ_pE, zJ_pE, zR_pI, zT_pI, zL_pI, zn_pI, zE_pI, zI_pI, zQ_pI, zJ_pI, zR_pR, zT_pR, zL_pR, zn_pR, zE_pR, zI_pR, zQ_pR, zJ_pR, zR_pJ, zT_pJ, zL_pJ, zn_pJ, zE_pJ, zI_pJ, zQ_pJ, zJ_pJ, oA, e10, c, r704, o2, l2, nn, gn, ln, qn, oW, r1002, oH, r203, o6, l6, t00, n00, l60, e0, d1]
    · rw [decide_eq_false d]
      have d1 := eq_false d
      have ih := c_org_go k hI o m (n + 1) fuel (by omega) (by omega)
      simp only []
      rw [← ih]
      simp only [f_X6_rowWithOrigin_2, o10, o00, bh, isO, inR, ck_true, bind_some9, Nat.reduceLeDiff, Nat.reduceEqDiff, and_self, and_true, true_and, false_and, and_false, not_false_eq_true, not_true_eq_false, or_self, or_false, false_or, if_true, if_false, reduceIte, zR_pE, zT_pE, zL_pE, zn_pE, zE_pE, zI_pE, zQ_pE, zJ_pE, zR_pI, zT_pI, zL_pI, zn_pI, zE_pI, zI_pI, zQ_pI, zJ_pI, zR_pR, zT_pR, zL_pR, zn_pR, zE_pR, zI_pR, zQ_pR, zJ_pR, zR_pJ, zT_pJ, zL_pJ, zn_pJ, zE_pJ, zI_pJ, zQ_pJ, zJ_pJ, oA, e10, c, r704, o2, l2, nn, gn, ln, qn, oW, r1002, oH, r203, o6, l6, t00, n00, l60, e0, d1, zi_one]
theorem c_org {vs : Nat → List Prg} {h : Hp} {own : Nat → Nat} {s v : Nat} {u : Nat → Nat} {q : Shd} {C : List Rec} (k : shC h own s u v q) (hI : ShI vs q C) (o : Int32) : f_X6_rowWithOrigin (shA s) o h = some (adr ((shOrg q o).map (fun n => (s, n))), h) := by
  have hN := k.2.2.2.2.1.1
  have := c_org_go k hI o (shN q) 0 fz (by omega) (fz_big (by omega))
  unfold shOrg
  rw [List.range_eq_range']
  exact this
theorem c_room {vs : Nat → List Prg} {now : Int32} {h : Hp} {own : Nat → Nat} {s v : Nat} {u : Nat → Nat} {q : Shd} (hv : vsOK vs) (cx : cxC h own vs now) (k : shC h own s u v q) (p : Int32) : f_X6_hasRoomFor (shA s) p h = some (if p < 0 ∨ (8 : Int32) ≤ p ∨ vs p.toNatClampNeg = [] ∨ shN q = 16 then 0 else 1, h) := by
  have hN := k.2.2.2.2.1.1
  have e10 : zI h 710 (shA s) = nI (shN q) := k.2.1.2.2.2.1
  obtain ⟨⟨⟨oA, -, -, r702, -⟩, -⟩, -⟩ := id k
  have e16 : ((16 : Int32) ≤ nI (shN q)) = (shN q = 16) := by
    have := zi_le (a := 16) (b := shN q) (by omega) (by omega)
    exact propext ⟨fun z => by have := this.mp z; omega, fun z => this.mpr (by omega)⟩
  by_cases c16 : shN q = 16
  · rw [if_pos (Or.inr (Or.inr (Or.inr c16)))]
    have d := eq_true c16
    rw [c16] at e10
    simp only [f_X6_hasRoomFor, o10, o00, bh, isO, inR, ck_true, bind_some9, Nat.reduceLeDiff, Nat.reduceEqDiff, and_self, and_true, true_and, false_and, and_false, not_false_eq_true, not_true_eq_false, or_self, or_false, false_or, if_true, if_false, reduceIte, zR_pE, zT_pE, zL_pE, zn_pE, zE_pE, zI_pE, zQ_pE, zJ_pE, zR_pI, zT_pI, zL_pI, zn_pI, zE_pI, zI_pI, zQ_pI, zJ_pI, zR_pR, zT_pR, zL_pR, zn_pR, zE_pR, zI_pR, zQ_pR, zJ_pR, zR_pJ, zT_pJ, zL_pJ, zn_pJ, zE_pJ, zI_pJ, zQ_pJ, zJ_pJ, oA, e10, show ((16 : Int32) ≤ nI 16) = True from eq_true (by decide)]
  · have d := eq_false c16
    by_cases c0 : p < 0
    · rw [if_pos (Or.inl c0)]
      simp only [f_X6_hasRoomFor, o10, o00, bh, isO, inR, ck_true, bind_some9, Nat.reduceLeDiff, Nat.reduceEqDiff, and_self, and_true, true_and, false_and, and_false, not_false_eq_true, not_true_eq_false, or_self, or_false, false_or, if_true, if_false, reduceIte, zR_pE, zT_pE, zL_pE, zn_pE, zE_pE, zI_pE, zQ_pE, zJ_pE, zR_pI, zT_pI, zL_pI, zn_pI, zE_pI, zI_pI, zQ_pI, zJ_pI, zR_pR, zT_pR, zL_pR, zn_pR, zE_pR, zI_pR, zQ_pR, zJ_pR, zR_pJ, zT_pJ, zL_pJ, zn_pJ, zE_pJ, zI_pJ, zQ_pJ, zJ_pJ, oA, e10, e16, d, c0]
    · by_cases c8 : (8 : Int32) ≤ p
      · rw [if_pos (Or.inr (Or.inl c8))]
        simp only [f_X6_hasRoomFor, o10, o00, bh, isO, inR, ck_true, bind_some9, Nat.reduceLeDiff, Nat.reduceEqDiff, and_self, and_true, true_and, false_and, and_false, not_false_eq_true, not_true_eq_false, or_self, or_false, false_or, if_true, if_false, reduceIte, zR_pE, zT_pE, zL_pE, zn_pE, zE_pE, zI_pE, zQ_pE, zJ_pE, zR_pI, zT_pI, zL_pI, zn_pI, zE_pI, zI_pI, zQ_pI, zJ_pI, zR_pR, zT_pR, zL_pR, zn_pR, zE_pR, zI_pR, zQ_pR, zJ_pR, zR_pJ, zT_pJ, zL_pJ, zn_pJ, zE_pJ, zI_pJ, zQ_pJ, zJ_pJ, oA, e10, e16, d, c0, c8]
      · obtain ⟨a, ha, ea⟩ := zi_of c0
        have na : (nI a).toNatClampNeg = a := zi_nat ha
        have a8 : a < 8 := by
          rw [ea] at c8
          have := zi_le (a := 8) (b := a) (by omega) ha
          by_cases z : a < 8
          · exact z
          · exact absurd (this.mpr (by omega)) c8
        obtain ⟨⟨v1, v2⟩, vb⟩ := id cx.2.2.1
        obtain ⟨b1, b2, b3, b4, b5, -⟩ := vb a a8
        have la : ¬ 8 ≤ a := by omega
        have hl := (hv a a8).1
        by_cases ce : vs a = []
        · rw [if_pos (Or.inr (Or.inr (Or.inl (by rw [ea, na]; exact ce))))]
          have z0 : (nI (vs a).length = 0) = True := eq_true (by rw [ce]; rfl)
          rw [ea] at c0 c8 ⊢
          simp only [f_X6_hasRoomFor, f_Jx4a65c_isEmpty_aae02, o10, o00, bh, isO, inR, ck_true, bind_some9, Nat.reduceLeDiff, Nat.reduceEqDiff, and_self, and_true, true_and, false_and, and_false, not_false_eq_true, not_true_eq_false, or_self, or_false, false_or, if_true, if_false, reduceIte, zR_pE, zT_pE, zL_pE, zn_pE, zE_pE, zI_pE, zQ_pE, zJ_pE, zR_pI, zT_pI, zL_pI, zn_pI, zE_pI, zI_pI, zQ_pI, zJ_pI, zR_pR, zT_pR, zL_pR, zn_pR, zE_pR, zI_pR, zQ_pR, zJ_pR, zR_pJ, zT_pJ, zL_pJ, zn_pJ, zE_pJ, zI_pJ, zQ_pJ, zJ_pJ, oA, e10, e16, d, c0, c8, r702, v1, v2, na, la, b1, b2, b3, b4, b5, z0]
        · rw [if_neg (by
            rintro (z | z | z | z)
            · exact c0 z
            · exact c8 z
            · rw [ea, na] at z; exact ce z
            · exact c16 z)]
          have z0 : (nI (vs a).length = 0) = False := eq_false (fun z => by
            have := (zi_eq (a := (vs a).length) (b := 0) (by omega) (by omega)).mp z
            exact ce (List.length_eq_zero_iff.mp this))
          rw [ea] at c0 c8 ⊢
          simp only [f_X6_hasRoomFor, f_Jx4a65c_isEmpty_aae02, o10, o00, bh, isO, inR, ck_true, bind_some9, Nat.reduceLeDiff, Nat.reduceEqDiff, and_self, and_true, true_and, false_and, and_false, not_false_eq_true, not_true_eq_false, or_self, or_false, false_or, if_true, if_false, reduceIte, zR_pE, zT_pE, zL_pE, zn_pE, zE_pE, zI_pE, zQ_pE, zJ_pE, zR_pI, zT_pI, zL_pI, zn_pI, zE_pI, zI_pI, zQ_pI, zJ_pI, zR_pR, zT_pR, zL_pR, zn_pR, zE_pR, zI_pR, zQ_pR, zJ_pR, zR_pJ, zT_pJ, zL_pJ, zn_pJ, zE_pJ, zI_pJ, zQ_pJ, zJ_pJ, oA, e10, e16, d, c0, c8, r702, v1, v2, na, la, b1, b2, b3, b4, b5, z0]
/-! CALLS OF THE CLASS: start, signal, cancel, query -/
theorem isB_if (b : Bool) : isB (if b = true then (1 : Int32) else 0) = True := by
  cases b
  · exact iB0
  · exact iB1
/-- a call that answers yes or no -/
def aCB (vs : Nat → List Prg) (now : Int32) (h : Hp) (own : Nat → Nat) (u : Nat → Nat → Nat) (v : Nat → Nat) (q : Bool × Wld) (x : Option (Int32 × Hp)) : Prop := aC vs now h own u v q.2 (if q.1 = true then 1 else 0) x
section Calls
variable {vs : Nat → List Prg} {now : Int32} {K : Nat} {h : Hp} {own : Nat → Nat} {u : Nat → Nat → Nat} {v : Nat → Nat} {W : Wld}
/-- behind something done in a shard -/
theorem CW.don (R : CW vs now h own u v W) {t : Nat} (ht : t < 4) {q1 : Shd} {h1 : Hp} (d : donC vs now t h own (u t) (v t) q1 h1) : isO h1 (shA t) 7 ∧ ∃ h2 own2 u2 v2, f_X6_settle (shA t) h1 = some h2 ∧ CW vs now h2 own2 u2 v2 (upf W t (stl vs now q1)) ∧ acW h own u v h2 own2 u2 v2 := by
  obtain ⟨d1, h2, own2, u2, v2, d2, d3, d4⟩ := d
  obtain ⟨R2, A2⟩ := R.one ht d3 d4
  exact ⟨d1, h2, own2, _, _, d2, R2, A2⟩
theorem c_md {a : Nat} (ha : a < 2147483648) : (nI a - nI (a / 4) * (4 : Int32) = nI (a % 4)) ∧ nI a / (4 : Int32) = nI (a / 4) ∧ (nI (a % 4)).toNatClampNeg = a % 4 ∧ ¬ nI (a % 4) < 0 ∧ ¬ 4 ≤ a % 4 := by
  have md : nI a - nI a / (4 : Int32) * 4 = nI (a % 4) := zi_mod (b := 4) ha (by omega) (by omega)
  have dv : nI a / (4 : Int32) = nI (a / 4) := zi_div (b := 4) ha (by omega) (by omega)
  rw [dv] at md
  exact ⟨md, dv, zi_nat (by omega), zi_neg (by omega), by omega⟩
theorem c_start (hv : vsOK vs) (hK : K ≤ 2000) (S : WdS vs K W) (R : CW vs now h own u v W) (rq p x : Int32) : aC vs now h own u v (wdStart vs now W rq p x).2 (wdStart vs now W rq p x).1 (f_X10_start 8 rq p x h) := by
  have cx := R.1
  obtain ⟨⟨o8, -, -, -, r3⟩, o13, l13, q13⟩ := id R.2.1
  unfold wdStart
  by_cases c : rq < 0
  · have c1 : (0 ≤ rq) = False := eq_false (Int32.not_le.mpr c)
    rw [if_pos c]
    simp only [f_X10_start, o10, o00, bh, isO, inR, ck_true, bind_some9, Nat.reduceLeDiff, Nat.reduceEqDiff, and_self, and_true, true_and, false_and, and_false, not_false_eq_true, not_true_eq_false, or_self, or_false, false_or, if_true, if_false, reduceIte, zR_pE, zT_pE, zL_pE, zn_pE, zE_pE, zI_pE, zQ_pE, zJ_pE, zR_pI, zT_pI, zL_pI, zn_pI, zE_pI, zI_pI, zQ_pI, zJ_pI, zR_pR, zT_pR, zL_pR, zn_pR, zE_pR, zI_pR, zQ_pR, zJ_pR, zR_pJ, zT_pJ, zL_pJ, zn_pJ, zE_pJ, zI_pJ, zQ_pJ, zJ_pJ, c1]
    exact aC.id R _
  · rw [if_neg c]
    have c1 : (0 ≤ rq) = True := eq_true (Int32.not_lt.mp c)
    obtain ⟨a, ha, ea⟩ := zi_of c
    have na : (nI a).toNatClampNeg = a := zi_nat ha
    obtain ⟨md, dv, nm, gm, lm⟩ := c_md ha
    have hs : a % 4 < 4 := by omega
    have k := R.2.2 (a % 4) hs
    obtain ⟨C, hS, hY⟩ := S (a % 4) hs
    have qm := q13 (a % 4) hs
    have oA := k.1.1.1
    have wk := c_works k
    rw [ea] at c1 ⊢
    simp only [na]
    by_cases cl : shL (W (a % 4)) = -1
    · rw [if_pos cl] at wk ⊢
      simp only [f_X10_start, o10, o00, bh, isO, inR, ck_true, bind_some9, Nat.reduceLeDiff, Nat.reduceEqDiff, and_self, and_true, true_and, false_and, and_false, not_false_eq_true, not_true_eq_false, or_self, or_false, false_or, if_true, if_false, reduceIte, zR_pE, zT_pE, zL_pE, zn_pE, zE_pE, zI_pE, zQ_pE, zJ_pE, zR_pI, zT_pI, zL_pI, zn_pI, zE_pI, zI_pI, zQ_pI, zJ_pI, zR_pR, zT_pR, zL_pR, zn_pR, zE_pR, zI_pR, zQ_pR, zJ_pR, zR_pJ, zT_pJ, zL_pJ, zn_pJ, zE_pJ, zI_pJ, zQ_pJ, zJ_pJ, c1, o8, r3, o13, l13, dv, md, nm, gm, lm, qm, oA, wk]
      exact aC.id R _
    · rw [if_neg cl] at wk ⊢
      have eo := c_org k hS.1 (nI a)
      cases ho : shOrg (W (a % 4)) (nI a) with
      | some n =>
        rw [ho] at eo
        have eo : f_X6_rowWithOrigin (shA (a % 4)) (nI a) h = some (wfA (a % 4) n, h) := eo
        obtain ⟨hn, -⟩ := shOrg_some ho
        have hN := k.2.2.2.2.1.1
        have wf : wfC h (wfA (a % 4) n) (a % 4 + 4 * n) (shF (W (a % 4)) n) := k.2.2.2.1 _ (by omega)
        have oW := wf.1.1.1
        have e1000 := wf.1.1.2.1
        have ne := wfA_ne (a % 4) n
        simp only [f_X10_start, o10, o00, bh, isO, inR, ck_true, bind_some9, Nat.reduceLeDiff, Nat.reduceEqDiff, and_self, and_true, true_and, false_and, and_false, not_false_eq_true, not_true_eq_false, or_self, or_false, false_or, if_true, if_false, reduceIte, zR_pE, zT_pE, zL_pE, zn_pE, zE_pE, zI_pE, zQ_pE, zJ_pE, zR_pI, zT_pI, zL_pI, zn_pI, zE_pI, zI_pI, zQ_pI, zJ_pI, zR_pR, zT_pR, zL_pR, zn_pR, zE_pR, zI_pR, zQ_pR, zJ_pR, zR_pJ, zT_pJ, zL_pJ, zn_pJ, zE_pJ, zI_pJ, zQ_pJ, zJ_pJ, c1, o8, r3, o13, l13, dv, md, nm, gm, lm, qm, oA, wk, eo, ne, oW, e1000]
        exact aC.id R _
      | none =>
        rw [ho] at eo
        have eo : f_X6_rowWithOrigin (shA (a % 4)) (nI a) h = some (0, h) := eo
        have er := c_room hv cx k p
        simp only []
        by_cases cr : p < 0 ∨ (8 : Int32) ≤ p ∨ vs p.toNatClampNeg = [] ∨ shN (W (a % 4)) = 16
        · rw [if_pos cr] at er ⊢
          simp only [f_X10_start, o10, o00, bh, isO, inR, ck_true, bind_some9, Nat.reduceLeDiff, Nat.reduceEqDiff, and_self, and_true, true_and, false_and, and_false, not_false_eq_true, not_true_eq_false, or_self, or_false, false_or, if_true, if_false, reduceIte, zR_pE, zT_pE, zL_pE, zn_pE, zE_pE, zI_pE, zQ_pE, zJ_pE, zR_pI, zT_pI, zL_pI, zn_pI, zE_pI, zI_pI, zQ_pI, zJ_pI, zR_pR, zT_pR, zL_pR, zn_pR, zE_pR, zI_pR, zQ_pR, zJ_pR, zR_pJ, zT_pJ, zL_pJ, zn_pJ, zE_pJ, zI_pJ, zQ_pJ, zJ_pJ, c1, o8, r3, o13, l13, dv, md, nm, gm, lm, qm, oA, wk, eo, er]
          exact aC.id R _
        · rw [if_neg cr] at er ⊢
          have cr1 : ¬ p < 0 := fun z => cr (Or.inl z)
          have cr2 : ¬ (8 : Int32) ≤ p := fun z => cr (Or.inr (Or.inl z))
          have cr3 : ¬ vs p.toNatClampNeg = [] := fun z => cr (Or.inr (Or.inr (Or.inl z)))
          have cr4 : ¬ shN (W (a % 4)) = 16 := fun z => cr (Or.inr (Or.inr (Or.inr z)))
          obtain ⟨b, hb, eb⟩ := zi_of cr1
          have nb : (nI b).toNatClampNeg = b := zi_nat hb
          have b8 : b < 8 := by
            rw [eb] at cr2
            by_cases z : b < 8
            · exact z
            · exact absurd ((zi_le (a := 8) (b := b) (by omega) hb).mpr (by omega)) cr2
          rw [eb] at er cr3 ⊢
          rw [nb] at cr3 ⊢
          have hN := k.2.2.2.2.1.1
          obtain ⟨h1, x1, d⟩ := c_beginS hv hs hK cx k hS.1 hY cl (by omega) b8 cr3 x (nI a)
          obtain ⟨oA1, h2, own2, u2, v2, x2, R2, A2⟩ := R.don hs d
          have e700 := k.1.1.2.1
          have e10 : zI h 710 (shA (a % 4)) = nI (shN (W (a % 4))) := k.2.1.2.2.2.1
          have en : nI (a % 4) + (4 : Int32) * nI (shN (W (a % 4))) = nI (a % 4 + 4 * shN (W (a % 4))) := by rw [show (4 : Int32) = nI 4 from rfl, zi_mul, zi_add]
          refine ⟨h2, own2, u2, v2, ?_, R2, A2⟩
          cases hb9 : (shBegin vs now (W (a % 4)) b x (nI a)).1 with
          | false =>
            rw [hb9, if_neg (fun z => Bool.noConfusion z)] at x1
            rw [if_neg (fun z => Bool.noConfusion z)]
            simp only [f_X10_start, o10, o00, bh, isO, inR, ck_true, bind_some9, Nat.reduceLeDiff, Nat.reduceEqDiff, and_self, and_true, true_and, false_and, and_false, not_false_eq_true, not_true_eq_false, or_self, or_false, false_or, if_true, if_false, reduceIte, zR_pE, zT_pE, zL_pE, zn_pE, zE_pE, zI_pE, zQ_pE, zJ_pE, zR_pI, zT_pI, zL_pI, zn_pI, zE_pI, zI_pI, zQ_pI, zJ_pI, zR_pR, zT_pR, zL_pR, zn_pR, zE_pR, zI_pR, zQ_pR, zJ_pR, zR_pJ, zT_pJ, zL_pJ, zn_pJ, zE_pJ, zI_pJ, zQ_pJ, zJ_pJ, c1, o8, r3, o13, l13, dv, md, nm, gm, lm, qm, oA, wk, eo, er, e700, e10, en, x1, oA1, x2]
          | true =>
            rw [hb9, if_pos rfl] at x1
            rw [if_pos rfl]
            simp only [f_X10_start, o10, o00, bh, isO, inR, ck_true, bind_some9, Nat.reduceLeDiff, Nat.reduceEqDiff, and_self, and_true, true_and, false_and, and_false, not_false_eq_true, not_true_eq_false, or_self, or_false, false_or, if_true, if_false, reduceIte, zR_pE, zT_pE, zL_pE, zn_pE, zE_pE, zI_pE, zQ_pE, zJ_pE, zR_pI, zT_pI, zL_pI, zn_pI, zE_pI, zI_pI, zQ_pI, zJ_pI, zR_pR, zT_pR, zL_pR, zn_pR, zE_pR, zI_pR, zQ_pR, zJ_pR, zR_pJ, zT_pJ, zL_pJ, zn_pJ, zE_pJ, zI_pJ, zQ_pJ, zJ_pJ, c1, o8, r3, o13, l13, dv, md, nm, gm, lm, qm, oA, wk, eo, er, e700, e10, en, x1, oA1, x2]
/-- where a workflow is -/
theorem flw_at (R : CW vs now h own u v W) {w : Int32} {s n : Nat} (e : flw W w = some (s, n)) : ∃ a, a < 2147483648 ∧ w = nI a ∧ s = a % 4 ∧ n = a / 4 ∧ s < 4 ∧ n < shN (W s) ∧ n < 16 ∧ shC h own s (u s) (v s) (W s) ∧ wfC h (wfA s n) (s + 4 * n) (shF (W s) n) := by
  unfold flw at e
  by_cases c : w < 0
  · rw [if_pos c] at e; cases e
  · rw [if_neg c] at e
    obtain ⟨a, ha, ea⟩ := zi_of c
    have na : (nI a).toNatClampNeg = a := zi_nat ha
    rw [ea, na] at e
    by_cases c2 : a / 4 < shN (W (a % 4))
    · rw [if_pos c2] at e
      have e := Option.some.inj e
      have e1 : a % 4 = s := congrArg Prod.fst e
      have e2 : a / 4 = n := congrArg Prod.snd e
      have k := R.2.2 (a % 4) (by omega)
      have hN := k.2.2.2.2.1.1
      rw [e1] at k c2 hN
      rw [e2] at c2
      exact ⟨a, ha, ea, e1.symm, e2.symm, by omega, c2, by omega, k, k.2.2.2.1 n (by omega)⟩
    · rw [if_neg c2] at e; cases e
theorem aCB.id (R : CW vs now h own u v W) (b : Bool) : aCB vs now h own u v (b, W) (some (if b = true then 1 else 0, h)) := aC.id R _
theorem c_signal (hv : vsOK vs) (hK : K ≤ 2000) (S : WdS vs K W) (R : CW vs now h own u v W) (rq w x : Int32) : aCB vs now h own u v (wdSignal vs now W rq w x) (f_X10_signal 8 rq w x h) := by
  have cx := R.1
  obtain ⟨⟨o8, -, -, -, r3⟩, o13, l13, q13⟩ := id R.2.1
  have ef := c_find R w
  unfold wdSignal
  by_cases c : rq < 0
  · rw [if_pos c]
    simp only [f_X10_signal, o10, o00, bh, isO, inR, ck_true, bind_some9, Nat.reduceLeDiff, Nat.reduceEqDiff, and_self, and_true, true_and, false_and, and_false, not_false_eq_true, not_true_eq_false, or_self, or_false, false_or, if_true, if_false, reduceIte, zR_pE, zT_pE, zL_pE, zn_pE, zE_pE, zI_pE, zQ_pE, zJ_pE, zR_pI, zT_pI, zL_pI, zn_pI, zE_pI, zI_pI, zQ_pI, zJ_pI, zR_pR, zT_pR, zL_pR, zn_pR, zE_pR, zI_pR, zQ_pR, zJ_pR, zR_pJ, zT_pJ, zL_pJ, zn_pJ, zE_pJ, zI_pJ, zQ_pJ, zJ_pJ, o8, ef, c]
    exact aCB.id R false
  · rw [if_neg c]
    cases e : flw W w with
    | none =>
      rw [e] at ef
      have ef : f_X10_find 8 w h = some (0, h) := ef
      simp only [f_X10_signal, o10, o00, bh, isO, inR, ck_true, bind_some9, Nat.reduceLeDiff, Nat.reduceEqDiff, and_self, and_true, true_and, false_and, and_false, not_false_eq_true, not_true_eq_false, or_self, or_false, false_or, if_true, if_false, reduceIte, zR_pE, zT_pE, zL_pE, zn_pE, zE_pE, zI_pE, zQ_pE, zJ_pE, zR_pI, zT_pI, zL_pI, zn_pI, zE_pI, zI_pI, zQ_pI, zJ_pI, zR_pR, zT_pR, zL_pR, zn_pR, zE_pR, zI_pR, zQ_pR, zJ_pR, zR_pJ, zT_pJ, zL_pJ, zn_pJ, zE_pJ, zI_pJ, zQ_pJ, zJ_pJ, o8, ef, c]
      exact aCB.id R false
    | some sn =>
      obtain ⟨s, n⟩ := sn
      rw [e] at ef
      have ef : f_X10_find 8 w h = some (wfA s n, h) := ef
      obtain ⟨a, ha, ea, es, en, hs, hn, hn16, k, wf⟩ := flw_at R e
      obtain ⟨md, dv, nm, gm, lm⟩ := c_md ha
      obtain ⟨C, hS, hY⟩ := S s hs
      have qm := q13 s hs
      rw [← es] at md nm gm lm
      have oA := k.1.1.1
      have wk := c_works k
      have ne := wfA_ne s n
      have oW := wf.1.1.1
      have r1002 := wf.1.1.2.2.2.1
      have oH : isO h (wfA s n + 2) 2 := wf.1.2.2.1.1
      have wP := wf.2.2.1.2.2.2.1
      rw [ea] at ef ⊢
      simp only []
      by_cases cl : shL (W s) = -1
      · rw [if_pos cl] at wk ⊢
        simp only [f_X10_signal, o10, o00, bh, isO, inR, ck_true, bind_some9, Nat.reduceLeDiff, Nat.reduceEqDiff, and_self, and_true, true_and, false_and, and_false, not_false_eq_true, not_true_eq_false, or_self, or_false, false_or, if_true, if_false, reduceIte, zR_pE, zT_pE, zL_pE, zn_pE, zE_pE, zI_pE, zQ_pE, zJ_pE, zR_pI, zT_pI, zL_pI, zn_pI, zE_pI, zI_pI, zQ_pI, zJ_pI, zR_pR, zT_pR, zL_pR, zn_pR, zE_pR, zI_pR, zQ_pR, zJ_pR, zR_pJ, zT_pJ, zL_pJ, zn_pJ, zE_pJ, zI_pJ, zQ_pJ, zJ_pJ, o8, ef, c, ne, r3, o13, l13, dv, md, nm, gm, lm, qm, oA, wk]
        exact aCB.id R false
      · rw [if_neg cl] at wk ⊢
        have eg := c_hasSig wf.1 wf.2.1 (row_ok hv hS.1 hn).2.2.2.1 rq
        obtain ⟨l1, l2, l3, l4, l5⟩ := hS.1.len hn
        by_cases cg : hasSig (flE (shF (W s) n)) rq = true
        · rw [if_pos cg] at eg ⊢
          simp only [f_X10_signal, o10, o00, bh, isO, inR, ck_true, bind_some9, Nat.reduceLeDiff, Nat.reduceEqDiff, and_self, and_true, true_and, false_and, and_false, not_false_eq_true, not_true_eq_false, or_self, or_false, false_or, if_true, if_false, reduceIte, zR_pE, zT_pE, zL_pE, zn_pE, zE_pE, zI_pE, zQ_pE, zJ_pE, zR_pI, zT_pI, zL_pI, zn_pI, zE_pI, zI_pI, zQ_pI, zJ_pI, zR_pR, zT_pR, zL_pR, zn_pR, zE_pR, zI_pR, zQ_pR, zJ_pR, zR_pJ, zT_pJ, zL_pJ, zn_pJ, zE_pJ, zI_pJ, zQ_pJ, zJ_pJ, o8, ef, c, ne, r3, o13, l13, dv, md, nm, gm, lm, qm, oA, wk, oW, r1002, oH, eg]
          exact aCB.id R true
        · rw [if_neg cg] at eg ⊢
          have hP : wkP (flW (shF (W s) n)) ≤ 5 := (row_ok hv hS.1 hn).2.2.2.2.1.2.2.2.2.1
          by_cases c4 : wkP (flW (shF (W s) n)) = 4
          · rw [if_pos c4]
            have d4 : (nI (wkP (flW (shF (W s) n))) = 4) = True := eq_true (by rw [c4]; rfl)
            simp only [f_X10_signal, o10, o00, bh, isO, inR, ck_true, bind_some9, Nat.reduceLeDiff, Nat.reduceEqDiff, and_self, and_true, true_and, false_and, and_false, not_false_eq_true, not_true_eq_false, or_self, or_false, false_or, if_true, if_false, reduceIte, zR_pE, zT_pE, zL_pE, zn_pE, zE_pE, zI_pE, zQ_pE, zJ_pE, zR_pI, zT_pI, zL_pI, zn_pI, zE_pI, zI_pI, zQ_pI, zJ_pI, zR_pR, zT_pR, zL_pR, zn_pR, zE_pR, zI_pR, zQ_pR, zJ_pR, zR_pJ, zT_pJ, zL_pJ, zn_pJ, zE_pJ, zI_pJ, zQ_pJ, zJ_pJ, o8, ef, c, ne, r3, o13, l13, dv, md, nm, gm, lm, qm, oA, wk, oW, r1002, oH, eg, wP, d4]
            exact aCB.id R false
          · rw [if_neg c4]
            have d4 : (nI (wkP (flW (shF (W s) n))) = 4) = False := eq_false (fun z => c4 ((zi_eq (b := 4) (by omega) (by omega)).mp z))
            have c5 : wkP (flW (shF (W s) n)) ≠ 5 := hS.2.1 cl n hn
            obtain ⟨h1, x1, d⟩ := c_bringS hv hs hK cx k hS.1 hY cl hn (kd := 8) (a := x) (b := 0) (o := rq) (signal_ok (by rw [← l5]; exact c4) (by rw [← l5]; exact c5))
            have x1 : f_X6_bring (shA s) (wfA s n) 8 x 0 rq h = some (if (shBring now (W s) n 8 x 0 rq).1 = true then 1 else 0, h1) := x1
            obtain ⟨oA1, h2, own2, u2, v2, x2, R2, A2⟩ := R.don hs d
            refine ⟨h2, own2, u2, v2, ?_, R2, A2⟩
            have ib := isB_if (shBring now (W s) n 8 x 0 rq).1
            dsimp only
            generalize (if (shBring now (W s) n 8 x 0 rq).1 = true then (1 : Int32) else 0) = r9 at *
            simp only [f_X10_signal, o10, o00, bh, isO, inR, ck_true, bind_some9, Nat.reduceLeDiff, Nat.reduceEqDiff, and_self, and_true, true_and, false_and, and_false, not_false_eq_true, not_true_eq_false, or_self, or_false, false_or, if_true, if_false, reduceIte, zR_pE, zT_pE, zL_pE, zn_pE, zE_pE, zI_pE, zQ_pE, zJ_pE, zR_pI, zT_pI, zL_pI, zn_pI, zE_pI, zI_pI, zQ_pI, zJ_pI, zR_pR, zT_pR, zL_pR, zn_pR, zE_pR, zI_pR, zQ_pR, zJ_pR, zR_pJ, zT_pJ, zL_pJ, zn_pJ, zE_pJ, zI_pJ, zQ_pJ, zJ_pJ, o8, ef, c, ne, r3, o13, l13, dv, md, nm, gm, lm, qm, oA, wk, oW, r1002, oH, eg, wP, d4, x1, oA1, x2, ib]
theorem upf_self (W : Wld) (s : Nat) : upf W s (W s) = W := upf_same W s
theorem c_cancel (hv : vsOK vs) (hK : K ≤ 2000) (S : WdS vs K W) (R : CW vs now h own u v W) (w : Int32) : aCB vs now h own u v (wdCancel vs now W w) (f_X10_cancel 8 w h) := by
  have cx := R.1
  obtain ⟨⟨o8, -, -, -, r3⟩, o13, l13, q13⟩ := id R.2.1
  have ef := c_find R w
  unfold wdCancel
  cases e : flw W w with
  | none =>
    rw [e] at ef
    have ef : f_X10_find 8 w h = some (0, h) := ef
    simp only [f_X10_cancel, o10, o00, bh, isO, inR, ck_true, bind_some9, Nat.reduceLeDiff, Nat.reduceEqDiff, and_self, and_true, true_and, false_and, and_false, not_false_eq_true, not_true_eq_false, or_self, or_false, false_or, if_true, if_false, reduceIte, zR_pE, zT_pE, zL_pE, zn_pE, zE_pE, zI_pE, zQ_pE, zJ_pE, zR_pI, zT_pI, zL_pI, zn_pI, zE_pI, zI_pI, zQ_pI, zJ_pI, zR_pR, zT_pR, zL_pR, zn_pR, zE_pR, zI_pR, zQ_pR, zJ_pR, zR_pJ, zT_pJ, zL_pJ, zn_pJ, zE_pJ, zI_pJ, zQ_pJ, zJ_pJ, o8, ef]
    exact aCB.id R false
  | some sn =>
    obtain ⟨s, n⟩ := sn
    rw [e] at ef
    have ef : f_X10_find 8 w h = some (wfA s n, h) := ef
    obtain ⟨a, ha, ea, es, en, hs, hn, hn16, k, wf⟩ := flw_at R e
    obtain ⟨md, dv, nm, gm, lm⟩ := c_md ha
    obtain ⟨C, hS, hY⟩ := S s hs
    have qm := q13 s hs
    rw [← es] at md nm gm lm
    have oA := k.1.1.1
    have wk := c_works k
    have ne := wfA_ne s n
    have oW := wf.1.1.1
    have wP := wf.2.2.1.2.2.2.1
    have hP : wkP (flW (shF (W s) n)) ≤ 5 := (row_ok hv hS.1 hn).2.2.2.2.1.2.2.2.2.1
    obtain ⟨l1, l2, l3, l4, l5⟩ := hS.1.len hn
    rw [ea] at ef ⊢
    simp only []
    by_cases c4 : wkP (flW (shF (W s) n)) = 4
    · rw [if_pos (Or.inr c4)]
      have d4 : (nI (wkP (flW (shF (W s) n))) = 4) = True := eq_true (by rw [c4]; rfl)
      simp only [f_X10_cancel, o10, o00, bh, isO, inR, ck_true, bind_some9, Nat.reduceLeDiff, Nat.reduceEqDiff, and_self, and_true, true_and, false_and, and_false, not_false_eq_true, not_true_eq_false, or_self, or_false, false_or, if_true, if_false, reduceIte, zR_pE, zT_pE, zL_pE, zn_pE, zE_pE, zI_pE, zQ_pE, zJ_pE, zR_pI, zT_pI, zL_pI, zn_pI, zE_pI, zI_pI, zQ_pI, zJ_pI, zR_pR, zT_pR, zL_pR, zn_pR, zE_pR, zI_pR, zQ_pR, zJ_pR, zR_pJ, zT_pJ, zL_pJ, zn_pJ, zE_pJ, zI_pJ, zQ_pJ, zJ_pJ, o8, ef, ne, oW, wP, d4]
      exact aCB.id R false
    · have d4 : (nI (wkP (flW (shF (W s) n))) = 4) = False := eq_false (fun z => c4 ((zi_eq (b := 4) (by omega) (by omega)).mp z))
      by_cases cl : shL (W s) = -1
      · rw [if_pos cl] at wk
        rw [if_pos (Or.inl cl)]
        obtain ⟨h2, own2, u2, v2, y1, y2, y3⟩ := c_settle hv hs hK cx k hS.1 hY
        rw [stl_off vs now (Or.inr (hS.2.2 cl))] at y2
        obtain ⟨R2, A2⟩ := R.one hs y2 y3
        rw [upf_self] at R2
        refine ⟨h2, own2, _, _, ?_, R2, A2⟩
        simp only [f_X10_cancel, o10, o00, bh, isO, inR, ck_true, bind_some9, Nat.reduceLeDiff, Nat.reduceEqDiff, and_self, and_true, true_and, false_and, and_false, not_false_eq_true, not_true_eq_false, or_self, or_false, false_or, if_true, if_false, reduceIte, zR_pE, zT_pE, zL_pE, zn_pE, zE_pE, zI_pE, zQ_pE, zJ_pE, zR_pI, zT_pI, zL_pI, zn_pI, zE_pI, zI_pI, zQ_pI, zJ_pI, zR_pR, zT_pR, zL_pR, zn_pR, zE_pR, zI_pR, zQ_pR, zJ_pR, zR_pJ, zT_pJ, zL_pJ, zn_pJ, zE_pJ, zI_pJ, zQ_pJ, zJ_pJ, o8, ef, ne, oW, wP, d4, r3, o13, l13, dv, md, nm, gm, lm, qm, oA, wk, y1]
        rfl
      · rw [if_neg cl] at wk
        rw [if_neg (fun z => z.elim cl c4)]
        have c5 : wkP (flW (shF (W s) n)) ≠ 5 := hS.2.1 cl n hn
        obtain ⟨h1, x1, d⟩ := c_bringS hv hs hK cx k hS.1 hY cl hn (kd := 11) (a := -2) (b := 0) (o := 0) (cancel_ok (by rw [← l5]; exact c4) (by rw [← l5]; exact c5))
        have x1 : f_X6_bring (shA s) (wfA s n) 11 (-2) 0 0 h = some (if (shBring now (W s) n 11 (-2) 0 0).1 = true then 1 else 0, h1) := x1
        obtain ⟨oA1, h2, own2, u2, v2, x2, R2, A2⟩ := R.don hs d
        refine ⟨h2, own2, u2, v2, ?_, R2, A2⟩
        dsimp only
        cases hb9 : (shBring now (W s) n 11 (-2) 0 0).1 with
        | false =>
          rw [hb9, if_neg (fun z => Bool.noConfusion z)] at x1
          rw [if_neg (fun z => Bool.noConfusion z)]
          simp only [f_X10_cancel, o10, o00, bh, isO, inR, ck_true, bind_some9, Nat.reduceLeDiff, Nat.reduceEqDiff, and_self, and_true, true_and, false_and, and_false, not_false_eq_true, not_true_eq_false, or_self, or_false, false_or, if_true, if_false, reduceIte, zR_pE, zT_pE, zL_pE, zn_pE, zE_pE, zI_pE, zQ_pE, zJ_pE, zR_pI, zT_pI, zL_pI, zn_pI, zE_pI, zI_pI, zQ_pI, zJ_pI, zR_pR, zT_pR, zL_pR, zn_pR, zE_pR, zI_pR, zQ_pR, zJ_pR, zR_pJ, zT_pJ, zL_pJ, zn_pJ, zE_pJ, zI_pJ, zQ_pJ, zJ_pJ, o8, ef, ne, oW, wP, d4, r3, o13, l13, dv, md, nm, gm, lm, qm, oA, wk, x1, oA1, x2]
        | true =>
          rw [hb9, if_pos rfl] at x1
          rw [if_pos rfl]
          simp only [f_X10_cancel, o10, o00, bh, isO, inR, ck_true, bind_some9, Nat.reduceLeDiff, Nat.reduceEqDiff, and_self, and_true, true_and, false_and, and_false, not_false_eq_true, not_true_eq_false, or_self, or_false, false_or, if_true, if_false, reduceIte, zR_pE, zT_pE, zL_pE, zn_pE, zE_pE, zI_pE, zQ_pE, zJ_pE, zR_pI, zT_pI, zL_pI, zn_pI, zE_pI, zI_pI, zQ_pI, zJ_pI, zR_pR, zT_pR, zL_pR, zn_pR, zE_pR, zI_pR, zQ_pR, zJ_pR, zR_pJ, zT_pJ, zL_pJ, zn_pJ, zE_pJ, zI_pJ, zQ_pJ, zJ_pJ, o8, ef, ne, oW, wP, d4, r3, o13, l13, dv, md, nm, gm, lm, qm, oA, wk, x1, oA1, x2]
end Calls
/-! CALLS OF THE CLASS: query, poll, beat, finish, fail, task -/
theorem shC.task {h h1 : Hp} {own : Nat → Nat} {s v n : Nat} {u : Nat → Nat} {q : Shd} {t1 : Tsk} (k : shC h own s u v q) (w : owS own) (hs : s < 4) (hn : n < 16) (x3 : cf (fun a _ => a = wfA s n + 7) h h1) (x2 : tkD h1 (wfA s n) t1) (x4 : nz h h1) : shC h1 own s u v (shSetF q n (flP (shF q n), flE (shF q n), flW (shF q n), t1)) ∧ acC s h own u v h1 own u v := by
  have wf : wfC h (wfA s n) (s + 4 * n) (shF q n) := k.2.2.2.1 _ hn
  obtain ⟨t, qh, qw, qk⟩ := id wf
  have ownT : own (wfA s n + 7) = 10 * s + 8 := by
    have : wfA s n + 7 = shA s + (18 + 8 * n + 7) := by unfold wfA; omega
    rw [this]
    exact ow_at w hs (by omega) (by omega) (by omega)
  refine ⟨?_, acC.nz (x3.mono (fun p j _ z => by rw [z, ownT]; omega)) x4⟩
  refine k.row (n := n) w hs hn x3 (fun a j z => ?_) ⟨t.on x3 (fun j _ _ z => by omega) (fun j _ _ z => by omega), qh.on t x3 (fun z => by omega) (fun a j _ _ z => by omega), qw.on t x3 (fun j _ _ z => by omega) (fun j z => by omega), x2⟩ (fun hq => ?_)
  · rw [z]
    unfold wfA
    omega
  · have pr : prC h own (zR h 1004 (wfA s n)) (flP (shF q n)) := k.2.2.2.2.1.2 _ hq
    have e4 : zR h1 1004 (wfA s n) = zR h 1004 (wfA s n) := x3.R t.1.1 (by omega)
    have : prC h1 own (zR h1 1004 (wfA s n)) (flP (shF q n)) := by
      rw [e4]
      exact pr.on x3 (exO.rf own h) (fun p j hp z => by rw [z, ownT] at hp; omega)
    exact this
/-- what a call leaves that answers or throws -/
def thr (a b : Nat) (q : Int32 × Int32) (h : Hp) : Sum (Int32 × Hp) (Nat × Hp) := if q.1 = 0 then .inl (q.2, h) else if q.1 = 1 then .inr (a, h) else .inr (b, h)
section Calls
variable {vs : Nat → List Prg} {now : Int32} {K : Nat} {h : Hp} {own : Nat → Nat} {u : Nat → Nat → Nat} {v : Nat → Nat} {W : Wld}
theorem c_query (R : CW vs now h own u v W) (w x : Int32) : f_X10_query 8 w x h = some (thr 20 44 (wdQuery W w x) h) := by
  obtain ⟨⟨o8, -, -, -, r3⟩, o13, l13, q13⟩ := id R.2.1
  have ef := c_find R w
  unfold wdQuery
  cases e : flw W w with
  | none =>
    rw [e] at ef
    have ef : f_X10_find 8 w h = some (0, h) := ef
    simp only [f_X10_query, o10, o00, bh, isO, inR, ck_true, bind_some9, Nat.reduceLeDiff, Nat.reduceEqDiff, and_self, and_true, true_and, false_and, and_false, not_false_eq_true, not_true_eq_false, or_self, or_false, false_or, if_true, if_false, reduceIte, zR_pE, zT_pE, zL_pE, zn_pE, zE_pE, zI_pE, zQ_pE, zJ_pE, zR_pI, zT_pI, zL_pI, zn_pI, zE_pI, zI_pI, zQ_pI, zJ_pI, zR_pR, zT_pR, zL_pR, zn_pR, zE_pR, zI_pR, zQ_pR, zJ_pR, zR_pJ, zT_pJ, zL_pJ, zn_pJ, zE_pJ, zI_pJ, zQ_pJ, zJ_pJ, o8, ef]
    rfl
  | some sn =>
    obtain ⟨s, n⟩ := sn
    rw [e] at ef
    have ef : f_X10_find 8 w h = some (wfA s n, h) := ef
    obtain ⟨a, ha, ea, es, en, hs, hn, hn16, k, wf⟩ := flw_at R e
    obtain ⟨md, dv, nm, gm, lm⟩ := c_md ha
    have qm := q13 s hs
    rw [← es] at md nm gm lm
    have oA := k.1.1.1
    have wk := c_works k
    have ne := wfA_ne s n
    have oW := wf.1.1.1
    have r1001 := wf.1.1.2.2.1
    have o1 := wf.1.2.1.1
    have l1 := wf.1.2.1.2
    simp only []
    rw [ea] at ef ⊢
    by_cases c0 : x < 0
    · rw [if_pos (Or.inl c0)]
      simp only [f_X10_query, o10, o00, bh, isO, inR, ck_true, bind_some9, Nat.reduceLeDiff, Nat.reduceEqDiff, and_self, and_true, true_and, false_and, and_false, not_false_eq_true, not_true_eq_false, or_self, or_false, false_or, if_true, if_false, reduceIte, zR_pE, zT_pE, zL_pE, zn_pE, zE_pE, zI_pE, zQ_pE, zJ_pE, zR_pI, zT_pI, zL_pI, zn_pI, zE_pI, zI_pI, zQ_pI, zJ_pI, zR_pR, zT_pR, zL_pR, zn_pR, zE_pR, zI_pR, zQ_pR, zJ_pR, zR_pJ, zT_pJ, zL_pJ, zn_pJ, zE_pJ, zI_pJ, zQ_pJ, zJ_pJ, o8, ef, ne, c0]
      rfl
    · by_cases c8 : (8 : Int32) ≤ x
      · rw [if_pos (Or.inr c8)]
        have c8 : (x < (8 : Int32)) = False := eq_false (Int32.not_lt.mpr c8)
        simp only [f_X10_query, o10, o00, bh, isO, inR, ck_true, bind_some9, Nat.reduceLeDiff, Nat.reduceEqDiff, and_self, and_true, true_and, false_and, and_false, not_false_eq_true, not_true_eq_false, or_self, or_false, false_or, if_true, if_false, reduceIte, zR_pE, zT_pE, zL_pE, zn_pE, zE_pE, zI_pE, zQ_pE, zJ_pE, zR_pI, zT_pI, zL_pI, zn_pI, zE_pI, zI_pI, zQ_pI, zJ_pI, zR_pR, zT_pR, zL_pR, zn_pR, zE_pR, zI_pR, zQ_pR, zJ_pR, zR_pJ, zT_pJ, zL_pJ, zn_pJ, zE_pJ, zI_pJ, zQ_pJ, zJ_pJ, o8, ef, ne, c0, c8]
        rfl
      · rw [if_neg (fun z => z.elim c0 c8)]
        have c8e : (x < (8 : Int32)) = True := eq_true (Int32.not_le.mp c8)
        obtain ⟨b, hb, eb⟩ := zi_of c0
        have nb : (nI b).toNatClampNeg = b := zi_nat hb
        have b8 : b < 8 := by
          rw [eb] at c8
          by_cases z : b < 8
          · exact z
          · exact absurd ((zi_le (a := 8) (b := b) (by omega) hb).mpr (by omega)) c8
        have lb : ¬ 8 ≤ b := by omega
        have ev := wf.2.2.1.1 b b8
        rw [eb] at c0 c8e ⊢
        by_cases cl : shL (W s) = -1
        · rw [if_pos cl] at wk ⊢
          simp only [f_X10_query, o10, o00, bh, isO, inR, ck_true, bind_some9, Nat.reduceLeDiff, Nat.reduceEqDiff, and_self, and_true, true_and, false_and, and_false, not_false_eq_true, not_true_eq_false, or_self, or_false, false_or, if_true, if_false, reduceIte, zR_pE, zT_pE, zL_pE, zn_pE, zE_pE, zI_pE, zQ_pE, zJ_pE, zR_pI, zT_pI, zL_pI, zn_pI, zE_pI, zI_pI, zQ_pI, zJ_pI, zR_pR, zT_pR, zL_pR, zn_pR, zE_pR, zI_pR, zQ_pR, zJ_pR, zR_pJ, zT_pJ, zL_pJ, zn_pJ, zE_pJ, zI_pJ, zQ_pJ, zJ_pJ, o8, ef, ne, c0, c8e, r3, o13, l13, dv, md, nm, gm, lm, qm, oA, wk]
          rfl
        · rw [if_neg cl] at wk ⊢
          simp only [f_X10_query, o10, o00, bh, isO, inR, ck_true, bind_some9, Nat.reduceLeDiff, Nat.reduceEqDiff, and_self, and_true, true_and, false_and, and_false, not_false_eq_true, not_true_eq_false, or_self, or_false, false_or, if_true, if_false, reduceIte, zR_pE, zT_pE, zL_pE, zn_pE, zE_pE, zI_pE, zQ_pE, zJ_pE, zR_pI, zT_pI, zL_pI, zn_pI, zE_pI, zI_pI, zQ_pI, zJ_pI, zR_pR, zT_pR, zL_pR, zn_pR, zE_pR, zI_pR, zQ_pR, zJ_pR, zR_pJ, zT_pJ, zL_pJ, zn_pJ, zE_pJ, zI_pJ, zQ_pJ, zJ_pJ, o8, ef, ne, c0, c8e, r3, o13, l13, dv, md, nm, gm, lm, qm, oA, wk, oW, r1001, o1, l1, nb, lb, ev]
          rfl
theorem flw_nat (W : Wld) {w : Nat} (hw : w < 2147483648) : flw W (nI w) = if w / 4 < shN (W (w % 4)) then some (w % 4, w / 4) else none := by
  unfold flw
  rw [if_neg (zi_neg hw), zi_nat hw]
def adN (o : Option Nat) : Nat := adr (o.map (fun w => (w % 4, w / 4)))
theorem c_leased_go (R : CW vs now h own u v W) (t : Int32) (ht : ¬ t ≤ 0) : ∀ (m w fuel : Nat), w + m = 64 → m < fuel → f_X10_leased_2 fuel 8 t (nI w) h = some (adN ((List.range' w m).find? (fun w => decide (w / 4 < shN (W (w % 4))) && decide (flK (shF (W (w % 4)) (w / 4)) = t))), h)
  | m, w, 0, _, hf => absurd hf (Nat.not_lt_zero _)
  | 0, w, fuel + 1, hw, hf => by
    have c : (64 : Int32) ≤ nI w := (zi_le (a := 64) (by omega) (by omega)).mpr (by omega)
    simp only [f_X10_leased_2, o10, o00, bh, isO, inR, ck_true, bind_some9, Nat.reduceLeDiff, Nat.reduceEqDiff, and_self, and_true, true_and, false_and, and_false, not_false_eq_true, not_true_eq_false, or_self, or_false, false_or, if_true, if_false, reduceIte, zR_pE, zT_pE, zL_pE, zn_pE, zE_pE, zI_pE, zQ_pE, zJ_pE, zR_pI, zT_pI, zL_pI, zn_pI, zE_pI, zI_pI, zQ_pI, zJ_pI, zR_pR, zT_pR, zL_pR, zn_pR, zE_pR, zI_pR, zQ_pR, zJ_pR, zR_pJ, zT_pJ, zL_pJ, zn_pJ, zE_pJ, zI_pJ, zQ_pJ, zJ_pJ, c]
    rfl
  | m + 1, w, fuel + 1, hw, hf => by
    have c : ¬ (64 : Int32) ≤ nI w := zi_le0 (a := 64) (by omega) (by omega) (by omega)
    have o8 := R.2.1.1.1
    have ef := c_find R (nI w)
    rw [flw_nat W (by omega)] at ef
    have ih := c_leased_go R t ht m (w + 1) fuel (by omega) (by omega)
    rw [List.range'_succ, List.find?_cons]
    by_cases d : w / 4 < shN (W (w % 4))
    · rw [if_pos d] at ef
      have ef : f_X10_find 8 (nI w) h = some (wfA (w % 4) (w / 4), h) := ef
      have k := R.2.2 (w % 4) (by omega)
      have wf : wfC h (wfA (w % 4) (w / 4)) (w % 4 + 4 * (w / 4)) (shF (W (w % 4)) (w / 4)) := k.2.2.2.1 _ (by omega)
      have ne := wfA_ne (w % 4) (w / 4)
      have oW := wf.1.1.1
      have r1003 := wf.1.1.2.2.2.2
      have oT := wf.1.2.2.2.2.2
      have t4 := wf.2.2.2.2.2.2.2.1
      rw [decide_eq_true d]
      by_cases d2 : flK (shF (W (w % 4)) (w / 4)) = t
      · rw [decide_eq_true d2]
        have d2e := eq_true d2
        simp only [Bool.and_self]
        simp only [f_X10_leased_2, o10, o00, bh, isO, inR, ck_true, bind_some9, Nat.reduceLeDiff, Nat.reduceEqDiff, and_self, and_true, true_and, false_and, and_false, not_false_eq_true, not_true_eq_false, or_self, or_false, false_or, if_true, if_false, reduceIte, zR_pE, zT_pE, zL_pE, zn_pE, zE_pE, zI_pE, zQ_pE, zJ_pE, zR_pI, zT_pI, zL_pI, zn_pI, zE_pI, zI_pI, zQ_pI, zJ_pI, zR_pR, zT_pR, zL_pR, zn_pR, zE_pR, zI_pR, zQ_pR, zJ_pR, zR_pJ, zT_pJ, zL_pJ, zn_pJ, zE_pJ, zI_pJ, zQ_pJ, zJ_pJ, c, ht, o8, ef, ne, oW, r1003, oT, t4, d2e]
        rfl
      · rw [decide_eq_false d2]
        have d2e := eq_false d2
        simp only [Bool.and_false]
        rw [← ih]
        simp only [f_X10_leased_2, f_X10_leased_35, o10, o00, bh, isO, inR, ck_true, bind_some9, Nat.reduceLeDiff, Nat.reduceEqDiff, and_self, and_true, true_and, false_and, and_false, not_false_eq_true, not_true_eq_false, or_self, or_false, false_or, if_true, if_false, reduceIte, zR_pE, zT_pE, zL_pE, zn_pE, zE_pE, zI_pE, zQ_pE, zJ_pE, zR_pI, zT_pI, zL_pI, zn_pI, zE_pI, zI_pI, zQ_pI, zJ_pI, zR_pR, zT_pR, zL_pR, zn_pR, zE_pR, zI_pR, zQ_pR, zJ_pR, zR_pJ, zT_pJ, zL_pJ, zn_pJ, zE_pJ, zI_pJ, zQ_pJ, zJ_pJ, c, ht, o8, ef, ne, oW, r1003, oT, t4, d2e, zi_one]
    · rw [if_neg d] at ef
      have ef : f_X10_find 8 (nI w) h = some (0, h) := ef
      rw [decide_eq_false d]
      simp only [Bool.false_and]
      rw [← ih]
      simp only [f_X10_leased_2, f_X10_leased_35, o10, o00, bh, isO, inR, ck_true, bind_some9, Nat.reduceLeDiff, Nat.reduceEqDiff, and_self, and_true, true_and, false_and, and_false, not_false_eq_true, not_true_eq_false, or_self, or_false, false_or, if_true, if_false, reduceIte, zR_pE, zT_pE, zL_pE, zn_pE, zE_pE, zI_pE, zQ_pE, zJ_pE, zR_pI, zT_pI, zL_pI, zn_pI, zE_pI, zI_pI, zQ_pI, zJ_pI, zR_pR, zT_pR, zL_pR, zn_pR, zE_pR, zI_pR, zQ_pR, zJ_pR, zR_pJ, zT_pJ, zL_pJ, zn_pJ, zE_pJ, zI_pJ, zQ_pJ, zJ_pJ, c, ht, o8, ef, zi_one]
theorem c_leased (R : CW vs now h own u v W) (t : Int32) : f_X10_leased 8 t h = some (adN (lsd W t), h) := by
  unfold lsd
  by_cases c : t ≤ 0
  · rw [if_pos c]
    have c0 : ¬ (64 : Int32) ≤ (0 : Int32) := by decide
    have e : f_X10_leased_2 fz 8 t (nI 0) h = some (0, h) := by
      obtain ⟨fu, e⟩ : ∃ j, fz = j + 1 := ⟨fz - 1, by have : 0 < fz := fz_big (by omega); omega⟩
      rw [e]
      have c0 : ¬ (64 : Int32) ≤ nI 0 := by decide
      simp only [f_X10_leased_2, o10, o00, bh, isO, inR, ck_true, bind_some9, Nat.reduceLeDiff, Nat.reduceEqDiff, and_self, and_true, true_and, false_and, and_false, not_false_eq_true, not_true_eq_false, or_self, or_false, false_or, if_true, if_false, reduceIte, zR_pE, zT_pE, zL_pE, zn_pE, zE_pE, zI_pE, zQ_pE, zJ_pE, zR_pI, zT_pI, zL_pI, zn_pI, zE_pI, zI_pI, zQ_pI, zJ_pI, zR_pR, zT_pR, zL_pR, zn_pR, zE_pR, zI_pR, zQ_pR, zJ_pR, zR_pJ, zT_pJ, zL_pJ, zn_pJ, zE_pJ, zI_pJ, zQ_pJ, zJ_pJ, c0, c]
    have e : f_X10_leased 8 t h = some (0, h) := e
    exact e
  · rw [if_neg c, List.range_eq_range']
    exact c_leased_go R t c 64 0 fz (by omega) (fz_big (by omega))
theorem lsd_at (S : WdS vs K W) (R : CW vs now h own u v W) {t : Int32} {x : Nat} (e : lsd W t = some x) : x < 64 ∧ x % 4 < 4 ∧ x / 4 < 16 ∧ x / 4 < shN (W (x % 4)) ∧ flK (shF (W (x % 4)) (x / 4)) = t ∧ t ≠ 0 ∧ wkP (flW (shF (W (x % 4)) (x / 4))) = 0 ∧ shL (W (x % 4)) ≠ -1 ∧ x % 4 + 4 * (x / 4) = x ∧ shC h own (x % 4) (u (x % 4)) (v (x % 4)) (W (x % 4)) ∧ wfC h (wfA (x % 4) (x / 4)) (x % 4 + 4 * (x / 4)) (shF (W (x % 4)) (x / 4)) := by
  obtain ⟨h1, h2, h3, h4⟩ := lsd_some e
  obtain ⟨C, hS, hY⟩ := S (x % 4) (by omega)
  have k := R.2.2 (x % 4) (by omega)
  have nz : t ≠ 0 := pos_ne h4
  rcases hS.1.2.2.2 (x / 4) h2 with z | ⟨z1, z2⟩
  · exact absurd (h3.symm.trans z) nz
  · exact ⟨h1, by omega, by omega, h2, h3, nz, z1, z2, by omega, k, k.2.2.2.1 _ (by omega)⟩
theorem c_beat (S : WdS vs K W) (R : CW vs now h own u v W) (t : Int32) : aCB vs now h own u v (wdBeat now W t) (f_X10_beat 8 t h) := by
  have cx := R.1
  obtain ⟨⟨o8, -, r1, -, r3⟩, o13, l13, q13⟩ := id R.2.1
  obtain ⟨w, -, -, oC, eC⟩ := id cx
  have el := c_leased R t
  unfold wdBeat
  cases e : lsd W t with
  | none =>
    rw [e] at el
    have el : f_X10_leased 8 t h = some (0, h) := el
    simp only [f_X10_beat, o10, o00, bh, isO, inR, ck_true, bind_some9, Nat.reduceLeDiff, Nat.reduceEqDiff, and_self, and_true, true_and, false_and, and_false, not_false_eq_true, not_true_eq_false, or_self, or_false, false_or, if_true, if_false, reduceIte, zR_pE, zT_pE, zL_pE, zn_pE, zE_pE, zI_pE, zQ_pE, zJ_pE, zR_pI, zT_pI, zL_pI, zn_pI, zE_pI, zI_pI, zQ_pI, zJ_pI, zR_pR, zT_pR, zL_pR, zn_pR, zE_pR, zI_pR, zQ_pR, zJ_pR, zR_pJ, zT_pJ, zL_pJ, zn_pJ, zE_pJ, zI_pJ, zQ_pJ, zJ_pJ, o8, el]
    exact aCB.id R false
  | some x =>
    rw [e] at el
    have el : f_X10_leased 8 t h = some (wfA (x % 4) (x / 4), h) := el
    obtain ⟨y1, y2, y3, y4, y5, y6, y7, y8, y9, k, wf⟩ := lsd_at S R e
    have ne := wfA_ne (x % 4) (x / 4)
    have oW := wf.1.1.1
    have r1003 := wf.1.1.2.2.2.2
    have oT := wf.1.2.2.2.2.2
    obtain ⟨t0, t1, t2, t3, t4, t5⟩ := wf.2.2.2
    dsimp only
    generalize hx : x % 4 = s at *
    generalize hn : x / 4 = n at *
    have f1 : cf (fun a _ => a = wfA s n + 7) h (pI h 905 (wfA s n + 7) (now + 10)) := cf_pI rfl
    obtain ⟨k1, a1⟩ := k.task (t1 := tkLease (flT (shF (W s) n)) t (now + 10)) w y2 y3 f1 ⟨by rw [zI_pI, if_neg (by omega)]; exact t0, by rw [zI_pI, if_neg (by omega)]; exact t1, by rw [zI_pI, if_neg (by omega)]; exact t2, by rw [zI_pI, if_neg (by omega)]; exact t3, by rw [zI_pI, if_neg (by omega)]; exact t4.trans y5, by rw [zI_pI, if_pos ⟨rfl, rfl⟩]; rfl⟩ rfl
    obtain ⟨R2, A2⟩ := R.one y2 k1 a1
    refine ⟨_, own, _, _, ?_, R2, A2⟩
    simp only [f_X10_beat, o10, o00, bh, isO, inR, ck_true, bind_some9, Nat.reduceLeDiff, Nat.reduceEqDiff, and_self, and_true, true_and, false_and, and_false, not_false_eq_true, not_true_eq_false, or_self, or_false, false_or, if_true, if_false, reduceIte, zR_pE, zT_pE, zL_pE, zn_pE, zE_pE, zI_pE, zQ_pE, zJ_pE, zR_pI, zT_pI, zL_pI, zn_pI, zE_pI, zI_pI, zQ_pI, zJ_pI, zR_pR, zT_pR, zL_pR, zn_pR, zE_pR, zI_pR, zQ_pR, zJ_pR, zR_pJ, zT_pJ, zL_pJ, zn_pJ, zE_pJ, zI_pJ, zQ_pJ, zJ_pJ, o8, el, ne, oW, r1, oC, eC, r1003, oT]
theorem c_finish (hv : vsOK vs) (hK : K ≤ 2000) (S : WdS vs K W) (R : CW vs now h own u v W) (t x9 : Int32) : aCB vs now h own u v (wdFinish vs now W t x9) (f_X10_finish 8 t x9 h) := by
  have cx := R.1
  obtain ⟨⟨o8, -, r1, -, r3⟩, o13, l13, q13⟩ := id R.2.1
  have el := c_leased R t
  unfold wdFinish
  cases e : lsd W t with
  | none =>
    rw [e] at el
    have el : f_X10_leased 8 t h = some (0, h) := el
    simp only [f_X10_finish, o10, o00, bh, isO, inR, ck_true, bind_some9, Nat.reduceLeDiff, Nat.reduceEqDiff, and_self, and_true, true_and, false_and, and_false, not_false_eq_true, not_true_eq_false, or_self, or_false, false_or, if_true, if_false, reduceIte, zR_pE, zT_pE, zL_pE, zn_pE, zE_pE, zI_pE, zQ_pE, zJ_pE, zR_pI, zT_pI, zL_pI, zn_pI, zE_pI, zI_pI, zQ_pI, zJ_pI, zR_pR, zT_pR, zL_pR, zn_pR, zE_pR, zI_pR, zQ_pR, zJ_pR, zR_pJ, zT_pJ, zL_pJ, zn_pJ, zE_pJ, zI_pJ, zQ_pJ, zJ_pJ, o8, el]
    exact aCB.id R false
  | some x =>
    rw [e] at el
    have el : f_X10_leased 8 t h = some (wfA (x % 4) (x / 4), h) := el
    obtain ⟨y1, y2, y3, y4, y5, y6, y7, y8, y9, k, wf⟩ := lsd_at S R e
    obtain ⟨C, hS, hY⟩ := S (x % 4) y2
    have ne := wfA_ne (x % 4) (x / 4)
    have oW := wf.1.1.1
    have e1000 := wf.1.1.2.1
    rw [y9] at e1000
    obtain ⟨md, dv, nm, gm, lm⟩ := c_md (a := x) (by omega)
    have qm := q13 (x % 4) y2
    have oA := k.1.1.1
    obtain ⟨l1, l2, l3, l4, l5⟩ := hS.1.len y4
    obtain ⟨h1, x1, d⟩ := c_bringS hv y2 hK cx k hS.1 hY y8 y4 (kd := 2) (a := x9) (b := 0) (o := 0) (result_ok (by rw [← l5]; exact y7))
    have x1 : f_X6_bring (shA (x % 4)) (wfA (x % 4) (x / 4)) 2 x9 0 0 h = some (if (shBring now (W (x % 4)) (x / 4) 2 x9 0 0).1 = true then 1 else 0, h1) := x1
    obtain ⟨oA1, h2, own2, u2, v2, x2, R2, A2⟩ := R.don y2 d
    refine ⟨h2, own2, u2, v2, ?_, R2, A2⟩
    have ib := isB_if (shBring now (W (x % 4)) (x / 4) 2 x9 0 0).1
    dsimp only
    generalize (if (shBring now (W (x % 4)) (x / 4) 2 x9 0 0).1 = true then (1 : Int32) else 0) = r9 at *
    simp only [f_X10_finish, o10, o00, bh, isO, inR, ck_true, bind_some9, Nat.reduceLeDiff, Nat.reduceEqDiff, and_self, and_true, true_and, false_and, and_false, not_false_eq_true, not_true_eq_false, or_self, or_false, false_or, if_true, if_false, reduceIte, zR_pE, zT_pE, zL_pE, zn_pE, zE_pE, zI_pE, zQ_pE, zJ_pE, zR_pI, zT_pI, zL_pI, zn_pI, zE_pI, zI_pI, zQ_pI, zJ_pI, zR_pR, zT_pR, zL_pR, zn_pR, zE_pR, zI_pR, zQ_pR, zJ_pR, zR_pJ, zT_pJ, zL_pJ, zn_pJ, zE_pJ, zI_pJ, zQ_pJ, zJ_pJ, o8, el, ne, oW, e1000, r3, o13, l13, dv, md, nm, gm, lm, qm, oA, x1, oA1, x2, ib]
theorem c_failC (hv : vsOK vs) (hK : K ≤ 2000) (S : WdS vs K W) (R : CW vs now h own u v W) (t : Int32) : aCB vs now h own u v (wdFail vs now W t) (f_X10_fail 8 t h) := by
  have cx := R.1
  obtain ⟨⟨o8, -, r1, -, r3⟩, o13, l13, q13⟩ := id R.2.1
  have el := c_leased R t
  unfold wdFail
  cases e : lsd W t with
  | none =>
    rw [e] at el
    have el : f_X10_leased 8 t h = some (0, h) := el
    simp only [f_X10_fail, o10, o00, bh, isO, inR, ck_true, bind_some9, Nat.reduceLeDiff, Nat.reduceEqDiff, and_self, and_true, true_and, false_and, and_false, not_false_eq_true, not_true_eq_false, or_self, or_false, false_or, if_true, if_false, reduceIte, zR_pE, zT_pE, zL_pE, zn_pE, zE_pE, zI_pE, zQ_pE, zJ_pE, zR_pI, zT_pI, zL_pI, zn_pI, zE_pI, zI_pI, zQ_pI, zJ_pI, zR_pR, zT_pR, zL_pR, zn_pR, zE_pR, zI_pR, zQ_pR, zJ_pR, zR_pJ, zT_pJ, zL_pJ, zn_pJ, zE_pJ, zI_pJ, zQ_pJ, zJ_pJ, o8, el]
    exact aCB.id R false
  | some x =>
    rw [e] at el
    have el : f_X10_leased 8 t h = some (wfA (x % 4) (x / 4), h) := el
    obtain ⟨y1, y2, y3, y4, y5, y6, y7, y8, y9, k, wf⟩ := lsd_at S R e
    obtain ⟨C, hS, hY⟩ := S (x % 4) y2
    have ne := wfA_ne (x % 4) (x / 4)
    have oW := wf.1.1.1
    have e1000 := wf.1.1.2.1
    rw [y9] at e1000
    obtain ⟨md, dv, nm, gm, lm⟩ := c_md (a := x) (by omega)
    have qm := q13 (x % 4) y2
    have oA := k.1.1.1
    obtain ⟨h1, x1, d⟩ := c_failS hv y2 hK cx k hS.1 hY y8 y4 y7 (by rw [y5]; exact y6)
    obtain ⟨oA1, h2, own2, u2, v2, x2, R2, A2⟩ := R.don y2 d
    refine ⟨h2, own2, u2, v2, ?_, R2, A2⟩
    have ib := isB_if (shFail now (W (x % 4)) (x / 4)).1
    dsimp only
    generalize (if (shFail now (W (x % 4)) (x / 4)).1 = true then (1 : Int32) else 0) = r9 at *
    simp only [f_X10_fail, o10, o00, bh, isO, inR, ck_true, bind_some9, Nat.reduceLeDiff, Nat.reduceEqDiff, and_self, and_true, true_and, false_and, and_false, not_false_eq_true, not_true_eq_false, or_self, or_false, false_or, if_true, if_false, reduceIte, zR_pE, zT_pE, zL_pE, zn_pE, zE_pE, zI_pE, zQ_pE, zJ_pE, zR_pI, zT_pI, zL_pI, zn_pI, zE_pI, zI_pI, zQ_pI, zJ_pI, zR_pR, zT_pR, zL_pR, zn_pR, zE_pR, zI_pR, zQ_pR, zJ_pR, zR_pJ, zT_pJ, zL_pJ, zn_pJ, zE_pJ, zI_pJ, zQ_pJ, zJ_pJ, o8, el, ne, oW, e1000, r3, o13, l13, dv, md, nm, gm, lm, qm, oA, x1, oA1, x2, ib]
theorem c_task (S : WdS vs K W) (R : CW vs now h own u v W) (t q : Int32) : f_X10_task 8 t q h = some (wdTask W t q, h) := by
  have o8 := R.2.1.1.1
  have el := c_leased R t
  unfold wdTask
  cases e : lsd W t with
  | none =>
    rw [e] at el
    have el : f_X10_leased 8 t h = some (0, h) := el
    simp only [f_X10_task, o10, o00, bh, isO, inR, ck_true, bind_some9, Nat.reduceLeDiff, Nat.reduceEqDiff, and_self, and_true, true_and, false_and, and_false, not_false_eq_true, not_true_eq_false, or_self, or_false, false_or, if_true, if_false, reduceIte, zR_pE, zT_pE, zL_pE, zn_pE, zE_pE, zI_pE, zQ_pE, zJ_pE, zR_pI, zT_pI, zL_pI, zn_pI, zE_pI, zI_pI, zQ_pI, zJ_pI, zR_pR, zT_pR, zL_pR, zn_pR, zE_pR, zI_pR, zQ_pR, zJ_pR, zR_pJ, zT_pJ, zL_pJ, zn_pJ, zE_pJ, zI_pJ, zQ_pJ, zJ_pJ, o8, el]
  | some x =>
    rw [e] at el
    have el : f_X10_leased 8 t h = some (wfA (x % 4) (x / 4), h) := el
    obtain ⟨y1, y2, y3, y4, y5, y6, y7, y8, y9, k, wf⟩ := lsd_at S R e
    have ne := wfA_ne (x % 4) (x / 4)
    have oW := wf.1.1.1
    have e1000 := wf.1.1.2.1
    rw [y9] at e1000
    have r1003 := wf.1.1.2.2.2.2
    have oT := wf.1.2.2.2.2.2
    obtain ⟨t0, t1, t2, t3, t4, t5⟩ := wf.2.2.2
    simp only []
    by_cases c0 : q = 0
    · rw [if_pos c0]
      simp only [f_X10_task, o10, o00, bh, isO, inR, ck_true, bind_some9, Nat.reduceLeDiff, Nat.reduceEqDiff, and_self, and_true, true_and, false_and, and_false, not_false_eq_true, not_true_eq_false, or_self, or_false, false_or, if_true, if_false, reduceIte, zR_pE, zT_pE, zL_pE, zn_pE, zE_pE, zI_pE, zQ_pE, zJ_pE, zR_pI, zT_pI, zL_pI, zn_pI, zE_pI, zI_pI, zQ_pI, zJ_pI, zR_pR, zT_pR, zL_pR, zn_pR, zE_pR, zI_pR, zQ_pR, zJ_pR, zR_pJ, zT_pJ, zL_pJ, zn_pJ, zE_pJ, zI_pJ, zQ_pJ, zJ_pJ, o8, el, ne, c0, oW, e1000]
    · rw [if_neg c0]
      by_cases c1 : q = 1
      · rw [if_pos c1]
        have c0 := eq_false c0
        simp only [f_X10_task, o10, o00, bh, isO, inR, ck_true, bind_some9, Nat.reduceLeDiff, Nat.reduceEqDiff, and_self, and_true, true_and, false_and, and_false, not_false_eq_true, not_true_eq_false, or_self, or_false, false_or, if_true, if_false, reduceIte, zR_pE, zT_pE, zL_pE, zn_pE, zE_pE, zI_pE, zQ_pE, zJ_pE, zR_pI, zT_pI, zL_pI, zn_pI, zE_pI, zI_pI, zQ_pI, zJ_pI, zR_pR, zT_pR, zL_pR, zn_pR, zE_pR, zI_pR, zQ_pR, zJ_pR, zR_pJ, zT_pJ, zL_pJ, zn_pJ, zE_pJ, zI_pJ, zQ_pJ, zJ_pJ, o8, el, ne, c0, eq_true c1, oW, r1003, oT, t1]
      · rw [if_neg c1]
        by_cases c2 : q = 2
        · rw [if_pos c2]
          simp only [f_X10_task, o10, o00, bh, isO, inR, ck_true, bind_some9, Nat.reduceLeDiff, Nat.reduceEqDiff, and_self, and_true, true_and, false_and, and_false, not_false_eq_true, not_true_eq_false, or_self, or_false, false_or, if_true, if_false, reduceIte, zR_pE, zT_pE, zL_pE, zn_pE, zE_pE, zI_pE, zQ_pE, zJ_pE, zR_pI, zT_pI, zL_pI, zn_pI, zE_pI, zI_pI, zQ_pI, zJ_pI, zR_pR, zT_pR, zL_pR, zn_pR, zE_pR, zI_pR, zQ_pR, zJ_pR, zR_pJ, zT_pJ, zL_pJ, zn_pJ, zE_pJ, zI_pJ, zQ_pJ, zJ_pJ, o8, el, ne, eq_false c0, eq_false c1, eq_true c2, oW, r1003, oT, t2]
        · rw [if_neg c2]
          by_cases c3 : q = 3
          · rw [if_pos c3]
            simp only [f_X10_task, o10, o00, bh, isO, inR, ck_true, bind_some9, Nat.reduceLeDiff, Nat.reduceEqDiff, and_self, and_true, true_and, false_and, and_false, not_false_eq_true, not_true_eq_false, or_self, or_false, false_or, if_true, if_false, reduceIte, zR_pE, zT_pE, zL_pE, zn_pE, zE_pE, zI_pE, zQ_pE, zJ_pE, zR_pI, zT_pI, zL_pI, zn_pI, zE_pI, zI_pI, zQ_pI, zJ_pI, zR_pR, zT_pR, zL_pR, zn_pR, zE_pR, zI_pR, zQ_pR, zJ_pR, zR_pJ, zT_pJ, zL_pJ, zn_pJ, zE_pJ, zI_pJ, zQ_pJ, zJ_pJ, o8, el, ne, eq_false c0, eq_false c1, eq_false c2, eq_true c3, oW, r1003, oT, t5]
          · rw [if_neg c3]
            simp only [f_X10_task, o10, o00, bh, isO, inR, ck_true, bind_some9, Nat.reduceLeDiff, Nat.reduceEqDiff, and_self, and_true, true_and, false_and, and_false, not_false_eq_true, not_true_eq_false, or_self, or_false, false_or, if_true, if_false, reduceIte, zR_pE, zT_pE, zL_pE, zn_pE, zE_pE, zI_pE, zQ_pE, zJ_pE, zR_pI, zT_pI, zL_pI, zn_pI, zE_pI, zI_pI, zQ_pI, zJ_pI, zR_pR, zT_pR, zL_pR, zn_pR, zE_pR, zI_pR, zQ_pR, zJ_pR, zR_pJ, zT_pJ, zL_pJ, zn_pJ, zE_pJ, zI_pJ, zQ_pJ, zJ_pJ, o8, el, ne, eq_false c0, eq_false c1, eq_false c2, eq_false c3]
end Calls
/-! CALLS OF THE CLASS: poll -/
theorem vsC.on2 {h h1 : Hp} {own own1 : Nat → Nat} {S : Nat → Nat → Prop} {vs : Nat → List Prg} (q : vsC h own vs) (f : cf S h h1) (e : exO own own1 h) (hS : ∀ a j, own a = 102 ∨ (15 ≤ a ∧ a < 32) → ¬ S a j) : vsC h1 own1 vs := by
  obtain ⟨⟨a1, a2⟩, b⟩ := q
  refine ⟨⟨f.O a1, (f.L a1).trans a2⟩, fun p hp => ?_⟩
  obtain ⟨b1, b2, b3, b4, b5, d, b6, b7, b8⟩ := b p hp
  refine ⟨(f.Q a1 (hS _ _ (Or.inr (by omega)))).trans b1, f.O b2, (f.R b2 (hS _ _ (Or.inr (by omega)))).trans b3, f.O b4, (f.I b4 (hS _ _ (Or.inr (by omega)))).trans b5, d, (f.R b4 (hS _ _ (Or.inr (by omega)))).trans b6, fun z => ?_, fun k P hk => ?_⟩
  · obtain ⟨c1, c2, c3⟩ := b7 z
    exact ⟨f.O c1, (e d c1.2.1).trans c2, by rw [f.L c1]; exact c3⟩
  · have ne : vs p ≠ [] := fun z => by rw [z] at hk; simp at hk
    obtain ⟨c1, c2, c3⟩ := b7 ne
    rw [f.Q c1 (hS _ _ (Or.inl c2))]
    exact (b8 k P hk).on f e (fun a j ha => hS a j (Or.inl ha))
/-- the counter of tokens, the clock -/
theorem CW.low {vs : Nat → List Prg} {now now1 : Int32} {h h1 : Hp} {own : Nat → Nat} {u : Nat → Nat → Nat} {v : Nat → Nat} {W : Wld} (R : CW vs now h own u v W) (f : cf (fun a j => (a = 8 ∧ j = 1104) ∨ (a = 14 ∧ j = 100)) h h1) (e : zI h1 100 14 = now1) : CW vs now1 h1 own u v W := by
  have w := R.1.1
  obtain ⟨a1, a2, a3, a4, a5⟩ := id R.1
  have lo : ∀ a j, (a = 8 ∧ j = 1104) ∨ (a = 14 ∧ j = 100) → own a = 100 := fun a j z => by
    rcases z with z | z
    · rw [z.1]; exact ow_low w (by omega)
    · rw [z.1]; exact ow_low w (by omega)
  refine ⟨⟨a1, Nat.le_trans a2 f.1, a3.on2 f (exO.rf own h) (fun a j ha z => ?_), f.O a4, e⟩, R.2.1.on f (fun j _ _ z => by omega) (fun j z => by omega), fun t ht => (R.2.2 t ht).off w ht f (exO.rf own h) (fun a j ha z => ?_)⟩
  · have := lo a j z
    omega
  · have := lo a j z
    omega
section Calls
variable {vs : Nat → List Prg} {now : Int32} {K : Nat} {h : Hp} {own : Nat → Nat} {u : Nat → Nat → Nat} {v : Nat → Nat} {W : Wld}
theorem c_offers {num w : Nat} {f : Flw} (wf : wfC h w num f) (hP : wkP (flW f) ≤ 5) (kind : Int32) : f_X9_offers w kind now h = some (if wkP (flW f) = 0 ∧ flK f = 0 ∧ (flT f).2.2.2.1 ≤ now ∧ (flT f).1 = kind then 1 else 0, h) := by
  have oW := wf.1.1.1
  have r1003 := wf.1.1.2.2.2.2
  have oT := wf.1.2.2.2.2.2
  have wP := wf.2.2.1.2.2.2.1
  obtain ⟨t0, t1, t2, t3, t4, t5⟩ := wf.2.2.2
  have i0 : (nI (wkP (flW f)) = 0) = (wkP (flW f) = 0) := propext (zi_eq (b := 0) (by omega) (by omega))
  by_cases c1 : wkP (flW f) = 0
  · by_cases c2 : (flT f).1 = kind
    · by_cases c3 : flK f = 0
      · by_cases c4 : (flT f).2.2.2.1 ≤ now
        · rw [if_pos ⟨c1, c3, c4, c2⟩]
          have d4 : (now < (flT f).2.2.2.1) = False := eq_false (Int32.not_lt.mpr c4)
          simp only [f_X9_offers, o10, o00, bh, isO, inR, ck_true, bind_some9, Nat.reduceLeDiff, Nat.reduceEqDiff, and_self, and_true, true_and, false_and, and_false, not_false_eq_true, not_true_eq_false, or_self, or_false, false_or, if_true, if_false, reduceIte, zR_pE, zT_pE, zL_pE, zn_pE, zE_pE, zI_pE, zQ_pE, zJ_pE, zR_pI, zT_pI, zL_pI, zn_pI, zE_pI, zI_pI, zQ_pI, zJ_pI, zR_pR, zT_pR, zL_pR, zn_pR, zE_pR, zI_pR, zQ_pR, zJ_pR, zR_pJ, zT_pJ, zL_pJ, zn_pJ, zE_pJ, zI_pJ, zQ_pJ, zJ_pJ, oW, wP, i0, eq_true c1, r1003, oT, t0, eq_true c2, t4, eq_true c3, t3, d4]
        · rw [if_neg (fun z => c4 z.2.2.1)]
          have d4 : (now < (flT f).2.2.2.1) = True := eq_true (Int32.not_le.mp c4)
          simp only [f_X9_offers, o10, o00, bh, isO, inR, ck_true, bind_some9, Nat.reduceLeDiff, Nat.reduceEqDiff, and_self, and_true, true_and, false_and, and_false, not_false_eq_true, not_true_eq_false, or_self, or_false, false_or, if_true, if_false, reduceIte, zR_pE, zT_pE, zL_pE, zn_pE, zE_pE, zI_pE, zQ_pE, zJ_pE, zR_pI, zT_pI, zL_pI, zn_pI, zE_pI, zI_pI, zQ_pI, zJ_pI, zR_pR, zT_pR, zL_pR, zn_pR, zE_pR, zI_pR, zQ_pR, zJ_pR, zR_pJ, zT_pJ, zL_pJ, zn_pJ, zE_pJ, zI_pJ, zQ_pJ, zJ_pJ, oW, wP, i0, eq_true c1, r1003, oT, t0, eq_true c2, t4, eq_true c3, t3, d4]
      · rw [if_neg (fun z => c3 z.2.1)]
        simp only [f_X9_offers, o10, o00, bh, isO, inR, ck_true, bind_some9, Nat.reduceLeDiff, Nat.reduceEqDiff, and_self, and_true, true_and, false_and, and_false, not_false_eq_true, not_true_eq_false, or_self, or_false, false_or, if_true, if_false, reduceIte, zR_pE, zT_pE, zL_pE, zn_pE, zE_pE, zI_pE, zQ_pE, zJ_pE, zR_pI, zT_pI, zL_pI, zn_pI, zE_pI, zI_pI, zQ_pI, zJ_pI, zR_pR, zT_pR, zL_pR, zn_pR, zE_pR, zI_pR, zQ_pR, zJ_pR, zR_pJ, zT_pJ, zL_pJ, zn_pJ, zE_pJ, zI_pJ, zQ_pJ, zJ_pJ, oW, wP, i0, eq_true c1, r1003, oT, t0, eq_true c2, t4, eq_false c3]
    · rw [if_neg (fun z => c2 z.2.2.2)]
      simp only [f_X9_offers, o10, o00, bh, isO, inR, ck_true, bind_some9, Nat.reduceLeDiff, Nat.reduceEqDiff, and_self, and_true, true_and, false_and, and_false, not_false_eq_true, not_true_eq_false, or_self, or_false, false_or, if_true, if_false, reduceIte, zR_pE, zT_pE, zL_pE, zn_pE, zE_pE, zI_pE, zQ_pE, zJ_pE, zR_pI, zT_pI, zL_pI, zn_pI, zE_pI, zI_pI, zQ_pI, zJ_pI, zR_pR, zT_pR, zL_pR, zn_pR, zE_pR, zI_pR, zQ_pR, zJ_pR, zR_pJ, zT_pJ, zL_pJ, zn_pJ, zE_pJ, zI_pJ, zQ_pJ, zJ_pJ, oW, wP, i0, eq_true c1, r1003, oT, t0, eq_false c2]
  · rw [if_neg (fun z => c1 z.1)]
    simp only [f_X9_offers, o10, o00, bh, isO, inR, ck_true, bind_some9, Nat.reduceLeDiff, Nat.reduceEqDiff, and_self, and_true, true_and, false_and, and_false, not_false_eq_true, not_true_eq_false, or_self, or_false, false_or, if_true, if_false, reduceIte, zR_pE, zT_pE, zL_pE, zn_pE, zE_pE, zI_pE, zQ_pE, zJ_pE, zR_pI, zT_pI, zL_pI, zn_pI, zE_pI, zI_pI, zQ_pI, zJ_pI, zR_pR, zT_pR, zL_pR, zn_pR, zE_pR, zI_pR, zQ_pR, zJ_pR, zR_pJ, zT_pJ, zL_pJ, zn_pJ, zE_pJ, zI_pJ, zQ_pJ, zJ_pJ, oW, wP, i0, eq_false c1]
theorem adN_ne (w : Nat) : ¬ adN (some w) = 0 := wfA_ne _ _
/-- the end of a search -/
def polE (h : Hp) (b : Option Nat) : Option (Int32 × Hp) := f_X10_poll_4 1 8 0 (adN b) 64 h
theorem c_poll_go (hv : vsOK vs) (S : WdS vs K W) (R : CW vs now h own u v W) (kind : Int32) : ∀ (m w fuel : Nat) (b : Option Nat), w + m = 64 → m < fuel → (∀ x, b = some x → x < 64 ∧ x / 4 < shN (W (x % 4))) → ∃ fu kd, f_X10_poll_4 fuel 8 kind (adN b) (nI w) h = f_X10_poll_4 (fu + 1) 8 kd (adN ((List.range' w m).foldl (bst W now kind) b)) 64 h ∧ ∀ x, (List.range' w m).foldl (bst W now kind) b = some x → x < 64 ∧ x / 4 < shN (W (x % 4))
  | m, w, 0, b, _, hf, _ => absurd hf (Nat.not_lt_zero _)
  | 0, w, fuel + 1, b, hw, hf, hb => by
    have e : w = 64 := by omega
    rw [e]
    exact ⟨fuel, kind, rfl, hb⟩
  | m + 1, w, fuel + 1, b, hw, hf, hb => by
    have c : ¬ (64 : Int32) ≤ nI w := zi_le0 (a := 64) (by omega) (by omega) (by omega)
    obtain ⟨⟨o8, -, r1, -, r3⟩, o13, l13, q13⟩ := id R.2.1
    obtain ⟨-, -, -, oC, eC⟩ := id R.1
    have ef := c_find R (nI w)
    rw [flw_nat W (by omega)] at ef
    rw [List.range'_succ, List.foldl_cons]
    have hs : w % 4 < 4 := by omega
    have skip : f_X10_poll_4 (fuel + 1) 8 kind (adN b) (nI w) h = f_X10_poll_4 fuel 8 kind (adN b) (nI (w + 1)) h → offr W now kind w = false → ∃ fu kd, f_X10_poll_4 (fuel + 1) 8 kind (adN b) (nI w) h = f_X10_poll_4 (fu + 1) 8 kd (adN ((List.range' (w + 1) m).foldl (bst W now kind) (bst W now kind b w))) 64 h ∧ ∀ x, (List.range' (w + 1) m).foldl (bst W now kind) (bst W now kind b w) = some x → x < 64 ∧ x / 4 < shN (W (x % 4)) := fun e1 e2 => by
      have : bst W now kind b w = b := by unfold bst; rw [if_neg (by rw [e2]; exact fun z => by cases z)]
      rw [this]
      obtain ⟨fu, kd, ih⟩ := c_poll_go hv S R kind m (w + 1) fuel b (by omega) (by omega) hb
      exact ⟨fu, kd, e1.trans ih.1, ih.2⟩
    by_cases d : w / 4 < shN (W (w % 4))
    · rw [if_pos d] at ef
      have ef : f_X10_find 8 (nI w) h = some (wfA (w % 4) (w / 4), h) := ef
      have k := R.2.2 (w % 4) hs
      obtain ⟨C, hS, hY⟩ := S (w % 4) hs
      have wf : wfC h (wfA (w % 4) (w / 4)) (w % 4 + 4 * (w / 4)) (shF (W (w % 4)) (w / 4)) := k.2.2.2.1 _ (by omega)
      have ne := wfA_ne (w % 4) (w / 4)
      have oW := wf.1.1.1
      have hP : wkP (flW (shF (W (w % 4)) (w / 4))) ≤ 5 := (row_ok hv hS.1 d).2.2.2.2.1.2.2.2.2.1
      have eo := c_offers (now := now) wf hP kind
      obtain ⟨md, dv, nm, gm, lm⟩ := c_md (a := w) (by omega)
      have qm := q13 (w % 4) hs
      have oA := k.1.1.1
      have wk := c_works k
      by_cases cl : shL (W (w % 4)) = -1
      · rw [if_pos cl] at wk
        refine skip ?_ (by unfold offr; exact decide_eq_false (fun z => z.2.1 cl))
        simp only [f_X10_poll_4, f_X10_poll_56, f_X10_poll_57, f_X10_poll_89, o10, o00, bh, isO, inR, ck_true, bind_some9, Nat.reduceLeDiff, Nat.reduceEqDiff, and_self, and_true, true_and, false_and, and_false, not_false_eq_true, not_true_eq_false, or_self, or_false, false_or, if_true, if_false, reduceIte, zR_pE, zT_pE, zL_pE, zn_pE, zE_pE, zI_pE, zQ_pE, zJ_pE, zR_pI, zT_pI, zL_pI, zn_pI, zE_pI, zI_pI, zQ_pI, zJ_pI, zR_pR, zT_pR, zL_pR, zn_pR, zE_pR, zI_pR, zQ_pR, zJ_pR, zR_pJ, zT_pJ, zL_pJ, zn_pJ, zE_pJ, zI_pJ, zQ_pJ, zJ_pJ, c, o8, ef, ne, r3, o13, l13, dv, md, nm, gm, lm, qm, oA, wk, zi_one]
      · rw [if_neg cl] at wk
        by_cases co : wkP (flW (shF (W (w % 4)) (w / 4))) = 0 ∧ flK (shF (W (w % 4)) (w / 4)) = 0 ∧ (flT (shF (W (w % 4)) (w / 4))).2.2.2.1 ≤ now ∧ (flT (shF (W (w % 4)) (w / 4))).1 = kind
        · rw [if_pos co] at eo
          have eT : offr W now kind w = true := by unfold offr; exact decide_eq_true ⟨d, cl, co⟩
          have r1003 := wf.1.1.2.2.2.2
          have oT := wf.1.2.2.2.2.2
          have t3 := wf.2.2.2.2.2.2.1
          cases b with
          | none =>
            have e1 : bst W now kind none w = some w := by unfold bst; rw [if_pos eT]
            rw [e1]
            obtain ⟨fu, kd, ih⟩ := c_poll_go hv S R kind m (w + 1) fuel (some w) (by omega) (by omega) (fun x hx => by cases hx; exact ⟨by omega, d⟩)
            refine ⟨fu, kd, Eq.trans ?_ ih.1, ih.2⟩
            have a0 : adN none = 0 := rfl
            have a1 : adN (some w) = wfA (w % 4) (w / 4) := rfl
            rw [a0, a1]
            simp only [f_X10_poll_4, f_X10_poll_56, f_X10_poll_57, f_X10_poll_86, f_X10_poll_89, o10, o00, bh, isO, inR, ck_true, bind_some9, Nat.reduceLeDiff, Nat.reduceEqDiff, and_self, and_true, true_and, false_and, and_false, not_false_eq_true, not_true_eq_false, or_self, or_false, false_or, if_true, if_false, reduceIte, zR_pE, zT_pE, zL_pE, zn_pE, zE_pE, zI_pE, zQ_pE, zJ_pE, zR_pI, zT_pI, zL_pI, zn_pI, zE_pI, zI_pI, zQ_pI, zJ_pI, zR_pR, zT_pR, zL_pR, zn_pR, zE_pR, zI_pR, zQ_pR, zJ_pR, zR_pJ, zT_pJ, zL_pJ, zn_pJ, zE_pJ, zI_pJ, zQ_pJ, zJ_pJ, c, o8, ef, ne, r3, o13, l13, dv, md, nm, gm, lm, qm, oA, wk, r1, oC, eC, oW, eo, zi_one]
          | some x =>
            obtain ⟨hx, hx2⟩ := hb x rfl
            have kx := R.2.2 (x % 4) (by omega)
            have wfx : wfC h (wfA (x % 4) (x / 4)) (x % 4 + 4 * (x / 4)) (shF (W (x % 4)) (x / 4)) := kx.2.2.2.1 _ (by omega)
            have nex := wfA_ne (x % 4) (x / 4)
            have oWx := wfx.1.1.1
            have r1003x := wfx.1.1.2.2.2.2
            have oTx := wfx.1.2.2.2.2.2
            have t3x := wfx.2.2.2.2.2.2.1
            have a0 : adN (some x) = wfA (x % 4) (x / 4) := rfl
            have a1 : adN (some w) = wfA (w % 4) (w / 4) := rfl
            by_cases cs : snc W w < snc W x
            · have e1 : bst W now kind (some x) w = some w := by unfold bst; rw [if_pos eT]; exact if_pos cs
              rw [e1]
              have cs : ((flT (shF (W (x % 4)) (x / 4))).2.2.2.1 ≤ (flT (shF (W (w % 4)) (w / 4))).2.2.2.1) = False := eq_false (Int32.not_le.mpr cs)
              obtain ⟨fu, kd, ih⟩ := c_poll_go hv S R kind m (w + 1) fuel (some w) (by omega) (by omega) (fun x hx => by cases hx; exact ⟨by omega, d⟩)
              refine ⟨fu, kd, Eq.trans ?_ ih.1, ih.2⟩
              rw [a0, a1]
              simp only [f_X10_poll_4, f_X10_poll_56, f_X10_poll_57, f_X10_poll_86, f_X10_poll_89, o10, o00, bh, isO, inR, ck_true, bind_some9, Nat.reduceLeDiff, Nat.reduceEqDiff, and_self, and_true, true_and, false_and, and_false, not_false_eq_true, not_true_eq_false, or_self, or_false, false_or, if_true, if_false, reduceIte, zR_pE, zT_pE, zL_pE, zn_pE, zE_pE, zI_pE, zQ_pE, zJ_pE, zR_pI, zT_pI, zL_pI, zn_pI, zE_pI, zI_pI, zQ_pI, zJ_pI, zR_pR, zT_pR, zL_pR, zn_pR, zE_pR, zI_pR, zQ_pR, zJ_pR, zR_pJ, zT_pJ, zL_pJ, zn_pJ, zE_pJ, zI_pJ, zQ_pJ, zJ_pJ, c, o8, ef, ne, r3, o13, l13, dv, md, nm, gm, lm, qm, oA, wk, r1, oC, eC, oW, eo, nex, r1003, oT, oWx, r1003x, oTx, t3, t3x, cs, zi_one]
            · have e1 : bst W now kind (some x) w = some x := by unfold bst; rw [if_pos eT]; exact if_neg cs
              rw [e1]
              have cs : ((flT (shF (W (x % 4)) (x / 4))).2.2.2.1 ≤ (flT (shF (W (w % 4)) (w / 4))).2.2.2.1) = True := eq_true (Int32.not_lt.mp cs)
              obtain ⟨fu, kd, ih⟩ := c_poll_go hv S R kind m (w + 1) fuel (some x) (by omega) (by omega) (fun y hy => by cases hy; exact ⟨hx, hx2⟩)
              refine ⟨fu, kd, Eq.trans ?_ ih.1, ih.2⟩
              rw [a0]
              simp only [f_X10_poll_4, f_X10_poll_56, f_X10_poll_57, f_X10_poll_86, f_X10_poll_89, o10, o00, bh, isO, inR, ck_true, bind_some9, Nat.reduceLeDiff, Nat.reduceEqDiff, and_self, and_true, true_and, false_and, and_false, not_false_eq_true, not_true_eq_false, or_self, or_false, false_or, if_true, if_false, reduceIte, zR_pE, zT_pE, zL_pE, zn_pE, zE_pE, zI_pE, zQ_pE, zJ_pE, zR_pI, zT_pI, zL_pI, zn_pI, zE_pI, zI_pI, zQ_pI, zJ_pI, zR_pR, zT_pR, zL_pR, zn_pR, zE_pR, zI_pR, zQ_pR, zJ_pR, zR_pJ, zT_pJ, zL_pJ, zn_pJ, zE_pJ, zI_pJ, zQ_pJ, zJ_pJ, c, o8, ef, ne, r3, o13, l13, dv, md, nm, gm, lm, qm, oA, wk, r1, oC, eC, oW, eo, nex, r1003, oT, oWx, r1003x, oTx, t3, t3x, cs, zi_one]
        · rw [if_neg co] at eo
          refine skip ?_ (by unfold offr; exact decide_eq_false (fun z => co z.2.2))
          simp only [f_X10_poll_4, f_X10_poll_56, f_X10_poll_57, f_X10_poll_89, o10, o00, bh, isO, inR, ck_true, bind_some9, Nat.reduceLeDiff, Nat.reduceEqDiff, and_self, and_true, true_and, false_and, and_false, not_false_eq_true, not_true_eq_false, or_self, or_false, false_or, if_true, if_false, reduceIte, zR_pE, zT_pE, zL_pE, zn_pE, zE_pE, zI_pE, zQ_pE, zJ_pE, zR_pI, zT_pI, zL_pI, zn_pI, zE_pI, zI_pI, zQ_pI, zJ_pI, zR_pR, zT_pR, zL_pR, zn_pR, zE_pR, zI_pR, zQ_pR, zJ_pR, zR_pJ, zT_pJ, zL_pJ, zn_pJ, zE_pJ, zI_pJ, zQ_pJ, zJ_pJ, c, o8, ef, ne, r3, o13, l13, dv, md, nm, gm, lm, qm, oA, wk, r1, oC, eC, oW, eo, zi_one]
    · rw [if_neg d] at ef
      have ef : f_X10_find 8 (nI w) h = some (0, h) := ef
      refine skip ?_ (by unfold offr; exact decide_eq_false (fun z => d z.1))
      simp only [f_X10_poll_4, f_X10_poll_56, f_X10_poll_57, f_X10_poll_89, o10, o00, bh, isO, inR, ck_true, bind_some9, Nat.reduceLeDiff, Nat.reduceEqDiff, and_self, and_true, true_and, false_and, and_false, not_false_eq_true, not_true_eq_false, or_self, or_false, false_or, if_true, if_false, reduceIte, zR_pE, zT_pE, zL_pE, zn_pE, zE_pE, zI_pE, zQ_pE, zJ_pE, zR_pI, zT_pI, zL_pI, zn_pI, zE_pI, zI_pI, zQ_pI, zJ_pI, zR_pR, zT_pR, zL_pR, zn_pR, zE_pR, zI_pR, zQ_pR, zJ_pR, zR_pJ, zT_pJ, zL_pJ, zn_pJ, zE_pJ, zI_pJ, zQ_pJ, zJ_pJ, c, o8, ef, zi_one]
theorem c_poll (hv : vsOK vs) (S : WdS vs K W) (R : CW vs now h own u v W) (kind : Int32) {tk : Nat} (etk : zI h 1104 8 = nI tk) : (pollN W now kind 64 = none → f_X10_poll 8 kind h = some (-1, h)) ∧ ∀ w, pollN W now kind 64 = some w → ∃ h1 own1 u1 v1, f_X10_poll 8 kind h = some (nI (tk + 1), h1) ∧ CW vs now h1 own1 u1 v1 (wdPoll now W tk kind).2 ∧ acW (pI h 1104 8 (nI (tk + 1))) own u v h1 own1 u1 v1 ∧ zI h1 1104 8 = nI (tk + 1) := by
  obtain ⟨fu, kd, e1, e2⟩ := c_poll_go hv S R kind 64 0 fz none (by omega) (fz_big (by omega)) (fun x hx => by cases hx)
  rw [← List.range_eq_range'] at e1 e2
  have e1 : f_X10_poll 8 kind h = f_X10_poll_4 (fu + 1) 8 kd (adN (pollN W now kind 64)) 64 h := e1
  have e2 : ∀ x, pollN W now kind 64 = some x → x < 64 ∧ x / 4 < shN (W (x % 4)) := e2
  rw [e1]
  have c : (64 : Int32) ≤ 64 := by decide
  refine ⟨fun e => ?_, fun x e => ?_⟩
  · rw [e]
    have a0 : adN none = 0 := rfl
    rw [a0]
    simp only [f_X10_poll_4, o10, o00, bh, isO, inR, ck_true, bind_some9, Nat.reduceLeDiff, Nat.reduceEqDiff, and_self, and_true, true_and, false_and, and_false, not_false_eq_true, not_true_eq_false, or_self, or_false, false_or, if_true, if_false, reduceIte, zR_pE, zT_pE, zL_pE, zn_pE, zE_pE, zI_pE, zQ_pE, zJ_pE, zR_pI, zT_pI, zL_pI, zn_pI, zE_pI, zI_pI, zQ_pI, zJ_pI, zR_pR, zT_pR, zL_pR, zn_pR, zE_pR, zI_pR, zQ_pR, zJ_pR, zR_pJ, zT_pJ, zL_pJ, zn_pJ, zE_pJ, zI_pJ, zQ_pJ, zJ_pJ, c]
  · obtain ⟨hx, hx2⟩ := e2 x e
    have a0 : adN (some x) = wfA (x % 4) (x / 4) := rfl
    rw [e, a0]
    have eP : (wdPoll now W tk kind).2 = wdLease W (x % 4) (x / 4) (nI (tk + 1)) (now + 10) := by unfold wdPoll; rw [e]
    rw [eP]
    have hs : x % 4 < 4 := by omega
    have hn : x / 4 < 16 := by omega
    generalize x % 4 = s at *
    generalize x / 4 = n at *
    have ne := wfA_ne s n
    have na : wfA s n + 7 ≠ 8 := by unfold wfA shA; omega
    have na2 : wfA s n ≠ 8 := by unfold wfA shA; omega
    have f0 : cf (fun a j => a = 8 ∧ j = 1104) h (pI h 1104 8 (nI (tk + 1))) := cf_pI ⟨rfl, rfl⟩
    have w := R.1.1
    have R0 : CW vs now (pI h 1104 8 (nI (tk + 1))) own u v W := R.low (f0.mono (fun a j _ z => Or.inl z)) (by rw [zI_pI, if_neg (by omega)]; exact R.1.2.2.2.2)
    obtain ⟨⟨o8, -, r1, -, r3⟩, o13, l13, q13⟩ := id R.2.1
    obtain ⟨-, -, -, oC, eC⟩ := id R.1
    have wf0 : wfC h (wfA s n) (s + 4 * n) (shF (W s) n) := (R.2.2 s hs).2.2.2.1 _ hn
    have e11 : nI tk + (1 : Int32) = nI (tk + 1) := zi_one tk
    have e0 : zI (pI h 1104 8 (nI (tk + 1))) 1104 8 = nI (tk + 1) := by rw [zI_pI, if_pos ⟨rfl, rfl⟩]
    generalize hg1 : pI h 1104 8 (nI (tk + 1)) = g1 at *
    have k := R0.2.2 s hs
    have wf : wfC g1 (wfA s n) (s + 4 * n) (shF (W s) n) := k.2.2.2.1 _ hn
    obtain ⟨⟨o81, -, r11, -, r31⟩, o131, l131, q131⟩ := id R0.2.1
    obtain ⟨-, -, -, oC1, eC1⟩ := id R0.1
    have oW := wf.1.1.1
    have r1003 := wf.1.1.2.2.2.2
    have oT := wf.1.2.2.2.2.2
    obtain ⟨t0, t1, t2, t3, t4, t5⟩ := wf.2.2.2
    generalize hg2 : pI g1 904 (wfA s n + 7) (nI (tk + 1)) = g2
    have r1003b : zR g2 1003 (wfA s n) = wfA s n + 7 := by rw [← hg2]; exact r1003
    have oTb : isO g2 (wfA s n + 7) 9 := by rw [← hg2]; exact oT
    have oCb : isO g2 14 1 := by rw [← hg2]; exact oC1
    have r11b : zR g2 1101 8 = 14 := by rw [← hg2]; exact r11
    have eCb : zI g2 100 14 = now := by rw [← hg2, zI_pI, if_neg (by omega)]; exact eC1
    generalize hg3 : pI g2 905 (wfA s n + 7) (now + 10) = g3
    have e3 : zI g3 1104 8 = nI (tk + 1) := by rw [← hg3, zI_pI, if_neg (by omega), ← hg2, zI_pI, if_neg (by omega)]; exact e0
    have f3 : cf (fun a _ => a = wfA s n + 7) g1 g3 := by
      rw [← hg3, ← hg2]
      exact (cf_pI (S := fun a _ => a = wfA s n + 7) rfl).tr (cf_pI rfl)
    have n3 : nz g1 g3 := by rw [← hg3, ← hg2]; exact rfl
    obtain ⟨k1, a1⟩ := k.task (t1 := tkLease (flT (shF (W s) n)) (nI (tk + 1)) (now + 10)) R0.1.1 hs hn f3 ⟨by rw [← hg3, zI_pI, if_neg (by omega), ← hg2, zI_pI, if_neg (by omega)]; exact t0, by rw [← hg3, zI_pI, if_neg (by omega), ← hg2, zI_pI, if_neg (by omega)]; exact t1, by rw [← hg3, zI_pI, if_neg (by omega), ← hg2, zI_pI, if_neg (by omega)]; exact t2, by rw [← hg3, zI_pI, if_neg (by omega), ← hg2, zI_pI, if_neg (by omega)]; exact t3, by rw [← hg3, zI_pI, if_neg (by omega), ← hg2, zI_pI, if_pos ⟨rfl, rfl⟩]; rfl, by rw [← hg3, zI_pI, if_pos ⟨rfl, rfl⟩]; rfl⟩ n3
    obtain ⟨R2, A2⟩ := R0.one hs k1 a1
    refine ⟨g3, own, _, _, ?_, R2, A2, e3⟩
    simp only [f_X10_poll_4, o10, o00, bh, isO, inR, ck_true, bind_some9, Nat.reduceLeDiff, Nat.reduceEqDiff, and_self, and_true, true_and, false_and, and_false, not_false_eq_true, not_true_eq_false, or_self, or_false, false_or, if_true, if_false, reduceIte, zR_pE, zT_pE, zL_pE, zn_pE, zE_pE, zI_pE, zQ_pE, zJ_pE, zR_pI, zT_pI, zL_pI, zn_pI, zE_pI, zI_pI, zQ_pI, zJ_pI, zR_pR, zT_pR, zL_pR, zn_pR, zE_pR, zI_pR, zQ_pR, zJ_pR, zR_pJ, zT_pJ, zL_pJ, zn_pJ, zE_pJ, zI_pJ, zQ_pJ, zJ_pJ, c, ne, o8, etk, e11, hg1, oW, r1003, oT, e0, hg2, oCb, r1003b, oTb, eCb, r11b, hg3, e3]
end Calls
/-! CALLS OF THE CLASS: what is shown -/
def out0 (w : Wkr) : Prop := wkP w = 4 ∨ wkO w = 0
theorem out0_walk (P : Prg) (es : List Evt) (w : Wkr) : wkO (wkWalk P es w) = wkO w := by
  unfold wkWalk
  simp only []
  repeat' split
  all_goals rfl
theorem out0_run {P : Prg} {o now : Int32} {es : List Evt} : ∀ (n : Nat) (w : Wkr), out0 w → out0 (wkRun P o now es n w).2
  | 0, w, h => h
  | n + 1, w, h => by
    unfold wkRun
    split
    · exact h
    · next c =>
      split
      · exact h
      · refine out0_run n _ (Or.inr ?_)
        rw [out0_walk]
        rcases h with h | h
        · exact absurd (by omega) c
        · exact h
theorem out0_take {P : Prg} {w : Wkr} {e : Evt} (h : wkO w = 0) : out0 (wkTake P w e) := by
  unfold wkTake
  split
  · exact Or.inr h
  · split
    · exact Or.inr h
    · split
      · exact Or.inr h
      · split
        · exact Or.inr h
        · split
          · exact Or.inr h
          · split
            · exact Or.inr h
            · split
              · split
                · exact Or.inr h
                · exact Or.inr h
              · split
                · split
                  · exact Or.inr h
                  · exact Or.inr h
                · exact Or.inl rfl
theorem out0_all {P : Prg} {es : List Evt} (hs : hsOK P es) : ∀ k, 1 ≤ k → k ≤ es.length → out0 (hA P es k) ∧ out0 (hR P es k)
  | 0, h, _ => absurd h (by decide)
  | 1, _, h => by
    have a : out0 (hA P es 1) := by
      have e1 : es.take 1 = [evAt es 0] := by rw [take_snoc (by omega)]; rfl
      unfold hA
      rw [e1]
      exact Or.inr rfl
    exact ⟨a, out0_run 201 _ a⟩
  | k + 2, _, h => by
    obtain ⟨-, ih⟩ := out0_all hs (k + 1) (by omega) (by omega)
    have ok := hs.2.2.2 (k + 1) (by omega) (by omega)
    have a : out0 (hA P es (k + 2)) := by
      rw [hA_next (by omega) (by omega)]
      refine out0_take ?_
      rcases ih with z | z
      · exact absurd z ok.1
      · exact z
    exact ⟨a, out0_run 201 _ a⟩
theorem out0_rp {P : Prg} {es : List Evt} (hs : hsOK P es) : out0 (rpR P es) := by
  have := (out0_all hs es.length hs.1 (Nat.le_refl _)).2
  unfold hR at this
  rw [List.take_length] at this
  exact this
theorem c_parent {h : Hp} {w num : Nat} {f : Flw} (wf : wfC h w num f) (hl : 0 < (flE f).length) : f_X9_parent w h = some (if flO f < 0 then (-1 - flO f) / 64 else -1, h) := by
  obtain ⟨⟨oW, -, -, r1002, -⟩, -, ⟨oH, -, -, -, r203⟩, ⟨-, -, -, o6⟩, ⟨-, -, -, l6⟩, -⟩ := wf.1
  have e0 : zE h (w + 6) 0 = flO f := (wf.2.1.2 0 _ (ev_get hl)).2.2.2
  have t00 : Int32.toNatClampNeg 0 = 0 := rfl
  have n00 : ((0 : Int32) < 0) = False := eq_false (by decide)
  have l60 : ¬ 60 ≤ 0 := by omega
  by_cases c : flO f < 0
  · rw [if_pos c]
    have d : (0 ≤ flO f) = False := eq_false (Int32.not_le.mpr c)
    simp only [f_X9_parent, o10, o00, bh, isO, inR, ck_true, bind_some9, Nat.reduceLeDiff, Nat.reduceEqDiff, and_self, and_true, true_and, false_and, and_false, not_false_eq_true, not_true_eq_false, or_self, or_false, false_or, if_true, if_false, reduceIte, zR_pE, zT_pE, zL_pE, zn_pE, zE_pE, zI_pE, zQ_pE, zJ_pE, zR_pI, zT_pI, zL_pI, zn_pI, zE_pI, zI_pI, zQ_pI, zJ_pI, zR_pR, zT_pR, zL_pR, zn_pR, zE_pR, zI_pR, zQ_pR, zJ_pR, zR_pJ, zT_pJ, zL_pJ, zn_pJ, zE_pJ, zI_pJ, zQ_pJ, zJ_pJ, oW, r1002, oH, r203, o6, l6, t00, n00, l60, e0, d]
  · rw [if_neg c]
    have d : (0 ≤ flO f) = True := eq_true (Int32.not_lt.mp c)
    simp only [f_X9_parent, o10, o00, bh, isO, inR, ck_true, bind_some9, Nat.reduceLeDiff, Nat.reduceEqDiff, and_self, and_true, true_and, false_and, and_false, not_false_eq_true, not_true_eq_false, or_self, or_false, false_or, if_true, if_false, reduceIte, zR_pE, zT_pE, zL_pE, zn_pE, zE_pE, zI_pE, zQ_pE, zJ_pE, zR_pI, zT_pI, zL_pI, zn_pI, zE_pI, zI_pI, zQ_pI, zJ_pI, zR_pR, zT_pR, zL_pR, zn_pR, zE_pR, zI_pR, zQ_pR, zJ_pR, zR_pJ, zT_pJ, zL_pJ, zn_pJ, zE_pJ, zI_pJ, zQ_pJ, zJ_pJ, oW, r1002, oH, r203, o6, l6, t00, n00, l60, e0, d]
section Calls
variable {vs : Nat → List Prg} {now : Int32} {K : Nat} {h : Hp} {own : Nat → Nat} {u : Nat → Nat → Nat} {v : Nat → Nat} {W : Wld}
theorem c_workflow (hv : vsOK vs) (S : WdS vs K W) (R : CW vs now h own u v W) (w q : Int32) : f_X10_workflow 8 w q h = some (wdFlow W w q, h) := by
  have o8 := R.2.1.1.1
  have ef := c_find R w
  unfold wdFlow
  cases e : flw W w with
  | none =>
    rw [e] at ef
    have ef : f_X10_find 8 w h = some (0, h) := ef
    simp only [f_X10_workflow, o10, o00, bh, isO, inR, ck_true, bind_some9, Nat.reduceLeDiff, Nat.reduceEqDiff, and_self, and_true, true_and, false_and, and_false, not_false_eq_true, not_true_eq_false, or_self, or_false, false_or, if_true, if_false, reduceIte, zR_pE, zT_pE, zL_pE, zn_pE, zE_pE, zI_pE, zQ_pE, zJ_pE, zR_pI, zT_pI, zL_pI, zn_pI, zE_pI, zI_pI, zQ_pI, zJ_pI, zR_pR, zT_pR, zL_pR, zn_pR, zE_pR, zI_pR, zQ_pR, zJ_pR, zR_pJ, zT_pJ, zL_pJ, zn_pJ, zE_pJ, zI_pJ, zQ_pJ, zJ_pJ, o8, ef]
  | some sn =>
    obtain ⟨s, n⟩ := sn
    rw [e] at ef
    have ef : f_X10_find 8 w h = some (wfA s n, h) := ef
    obtain ⟨a, ha, ea, es, en, hs, hn, hn16, k, wf⟩ := flw_at R e
    obtain ⟨C, hS, hY⟩ := S s hs
    have ne := wfA_ne s n
    obtain ⟨⟨oW, -, -, r1002, -⟩, -, ⟨oH, -, r201, -, r203⟩, ⟨-, o4, -, o6⟩, ⟨-, l4, -, l6⟩, -⟩ := id wf.1
    obtain ⟨wV, wS, wN, wP, -, wT, wC, wO⟩ := id wf.2.2.1
    have e204 := wf.2.1.1.1
    obtain ⟨l1, l2, l3, hs9, l5⟩ := hS.1.len hn
    obtain ⟨-, -, -, ko, G, -⟩ := row_ok hv hS.1 hn
    have e0 : zE h (wfA s n + 4) 0 = (evAt (flE (shF (W s) n)) 0).2.1 := (wf.2.1.2 0 _ (ev_get l1)).2.1
    have t00 : Int32.toNatClampNeg 0 = 0 := rfl
    have n00 : ((0 : Int32) < 0) = False := eq_false (by decide)
    have l60 : ¬ 60 ≤ 0 := by omega
    simp only []
    by_cases q0 : q = 0
    · rw [if_pos q0]
      simp only [f_X10_workflow, o10, o00, bh, isO, inR, ck_true, bind_some9, Nat.reduceLeDiff, Nat.reduceEqDiff, and_self, and_true, true_and, false_and, and_false, not_false_eq_true, not_true_eq_false, or_self, or_false, false_or, if_true, if_false, reduceIte, zR_pE, zT_pE, zL_pE, zn_pE, zE_pE, zI_pE, zQ_pE, zJ_pE, zR_pI, zT_pI, zL_pI, zn_pI, zE_pI, zI_pI, zQ_pI, zJ_pI, zR_pR, zT_pR, zL_pR, zn_pR, zE_pR, zI_pR, zQ_pR, zJ_pR, zR_pJ, zT_pJ, zL_pJ, zn_pJ, zE_pJ, zI_pJ, zQ_pJ, zJ_pJ, o8, ef, ne, eq_true q0, oW, wP]
    · rw [if_neg q0]
      by_cases q1 : q = 1
      · rw [if_pos q1]
        have : wkO (flW (shF (W s) n)) = if wkP (flW (shF (W s) n)) = 4 then wkO (flW (shF (W s) n)) else 0 := by
          have z := out0_rp hs9
          rw [← l5] at z
          split
          · rfl
          · next c => exact z.resolve_left c
        rw [← this]
        simp only [f_X10_workflow, o10, o00, bh, isO, inR, ck_true, bind_some9, Nat.reduceLeDiff, Nat.reduceEqDiff, and_self, and_true, true_and, false_and, and_false, not_false_eq_true, not_true_eq_false, or_self, or_false, false_or, if_true, if_false, reduceIte, zR_pE, zT_pE, zL_pE, zn_pE, zE_pE, zI_pE, zQ_pE, zJ_pE, zR_pI, zT_pI, zL_pI, zn_pI, zE_pI, zI_pI, zQ_pI, zJ_pI, zR_pR, zT_pR, zL_pR, zn_pR, zE_pR, zI_pR, zQ_pR, zJ_pR, zR_pJ, zT_pJ, zL_pJ, zn_pJ, zE_pJ, zI_pJ, zQ_pJ, zJ_pJ, o8, ef, ne, eq_false q0, eq_true q1, oW, wO]
      · rw [if_neg q1]
        by_cases q2 : q = 2
        · rw [if_pos q2]
          simp only [f_X10_workflow, o10, o00, bh, isO, inR, ck_true, bind_some9, Nat.reduceLeDiff, Nat.reduceEqDiff, and_self, and_true, true_and, false_and, and_false, not_false_eq_true, not_true_eq_false, or_self, or_false, false_or, if_true, if_false, reduceIte, zR_pE, zT_pE, zL_pE, zn_pE, zE_pE, zI_pE, zQ_pE, zJ_pE, zR_pI, zT_pI, zL_pI, zn_pI, zE_pI, zI_pI, zQ_pI, zJ_pI, zR_pR, zT_pR, zL_pR, zn_pR, zE_pR, zI_pR, zQ_pR, zJ_pR, zR_pJ, zT_pJ, zL_pJ, zn_pJ, zE_pJ, zI_pJ, zQ_pJ, zJ_pJ, o8, ef, ne, eq_false q0, eq_false q1, eq_true q2, oW, r1002, oH, e204]
        · rw [if_neg q2]
          by_cases q3 : q = 3
          · rw [if_pos q3]
            simp only [f_X10_workflow, o10, o00, bh, isO, inR, ck_true, bind_some9, Nat.reduceLeDiff, Nat.reduceEqDiff, and_self, and_true, true_and, false_and, and_false, not_false_eq_true, not_true_eq_false, or_self, or_false, false_or, if_true, if_false, reduceIte, zR_pE, zT_pE, zL_pE, zn_pE, zE_pE, zI_pE, zQ_pE, zJ_pE, zR_pI, zT_pI, zL_pI, zn_pI, zE_pI, zI_pI, zQ_pI, zJ_pI, zR_pR, zT_pR, zL_pR, zn_pR, zE_pR, zI_pR, zQ_pR, zJ_pR, zR_pJ, zT_pJ, zL_pJ, zn_pJ, zE_pJ, zI_pJ, zQ_pJ, zJ_pJ, o8, ef, ne, eq_false q0, eq_false q1, eq_false q2, eq_true q3, oW, r1002, oH, r201, o4, l4, t00, n00, l60, e0]
          · rw [if_neg q3]
            by_cases q4 : q = 4
            · rw [if_pos q4]
              simp only [f_X10_workflow, o10, o00, bh, isO, inR, ck_true, bind_some9, Nat.reduceLeDiff, Nat.reduceEqDiff, and_self, and_true, true_and, false_and, and_false, not_false_eq_true, not_true_eq_false, or_self, or_false, false_or, if_true, if_false, reduceIte, zR_pE, zT_pE, zL_pE, zn_pE, zE_pE, zI_pE, zQ_pE, zJ_pE, zR_pI, zT_pI, zL_pI, zn_pI, zE_pI, zI_pI, zQ_pI, zJ_pI, zR_pR, zT_pR, zL_pR, zn_pR, zE_pR, zI_pR, zQ_pR, zJ_pR, zR_pJ, zT_pJ, zL_pJ, zn_pJ, zE_pJ, zI_pJ, zQ_pJ, zJ_pJ, o8, ef, ne, eq_false q0, eq_false q1, eq_false q2, eq_false q3, eq_true q4, oW, wC]
            · rw [if_neg q4]
              by_cases q5 : q = 5
              · rw [if_pos q5]
                have ec := c_count wf.1 wf.2.1 ko (k := 8) (by omega) (Nat.le_refl (flE (shF (W s) n)).length)
                rw [List.take_length] at ec
                have ec : f_X1_count (wfA s n + 2) 8 (nI (flE (shF (W s) n)).length) h = some (nI (cntK 8 (flE (shF (W s) n))), h) := ec
                have gT : wkT (flW (shF (W s) n)) ≤ cntK 8 (flE (shF (W s) n)) := G.2.2.1
                have sb := zi_sub gT
                simp only [f_X10_workflow, o10, o00, bh, isO, inR, ck_true, bind_some9, Nat.reduceLeDiff, Nat.reduceEqDiff, and_self, and_true, true_and, false_and, and_false, not_false_eq_true, not_true_eq_false, or_self, or_false, false_or, if_true, if_false, reduceIte, zR_pE, zT_pE, zL_pE, zn_pE, zE_pE, zI_pE, zQ_pE, zJ_pE, zR_pI, zT_pI, zL_pI, zn_pI, zE_pI, zI_pI, zQ_pI, zJ_pI, zR_pR, zT_pR, zL_pR, zn_pR, zE_pR, zI_pR, zQ_pR, zJ_pR, zR_pJ, zT_pJ, zL_pJ, zn_pJ, zE_pJ, zI_pJ, zQ_pJ, zJ_pJ, o8, ef, ne, eq_false q0, eq_false q1, eq_false q2, eq_false q3, eq_false q4, eq_true q5, oW, r1002, oH, e204, ec, wT, sb]
              · rw [if_neg q5]
                by_cases q6 : q = 6
                · rw [if_pos q6]
                  have ep := c_parent wf l1
                  simp only [f_X10_workflow, o10, o00, bh, isO, inR, ck_true, bind_some9, Nat.reduceLeDiff, Nat.reduceEqDiff, and_self, and_true, true_and, false_and, and_false, not_false_eq_true, not_true_eq_false, or_self, or_false, false_or, if_true, if_false, reduceIte, zR_pE, zT_pE, zL_pE, zn_pE, zE_pE, zI_pE, zQ_pE, zJ_pE, zR_pI, zT_pI, zL_pI, zn_pI, zE_pI, zI_pI, zQ_pI, zJ_pI, zR_pR, zT_pR, zL_pR, zn_pR, zE_pR, zI_pR, zQ_pR, zJ_pR, zR_pJ, zT_pJ, zL_pJ, zn_pJ, zE_pJ, zI_pJ, zQ_pJ, zJ_pJ, o8, ef, ne, eq_false q0, eq_false q1, eq_false q2, eq_false q3, eq_false q4, eq_false q5, eq_true q6, oW, ep]
                · rw [if_neg q6]
                  simp only [f_X10_workflow, o10, o00, bh, isO, inR, ck_true, bind_some9, Nat.reduceLeDiff, Nat.reduceEqDiff, and_self, and_true, true_and, false_and, and_false, not_false_eq_true, not_true_eq_false, or_self, or_false, false_or, if_true, if_false, reduceIte, zR_pE, zT_pE, zL_pE, zn_pE, zE_pE, zI_pE, zQ_pE, zJ_pE, zR_pI, zT_pI, zL_pI, zn_pI, zE_pI, zI_pI, zQ_pI, zJ_pI, zR_pR, zT_pR, zL_pR, zn_pR, zE_pR, zI_pR, zQ_pR, zJ_pR, zR_pJ, zT_pJ, zL_pJ, zn_pJ, zE_pJ, zI_pJ, zQ_pJ, zJ_pJ, o8, ef, ne, eq_false q0, eq_false q1, eq_false q2, eq_false q3, eq_false q4, eq_false q5, eq_false q6]
theorem c_event (R : CW vs now h own u v W) (w x q : Int32) : f_X10_event 8 w x q h = some (thr 28 112 (wdEvent W w x q) h) := by
  have o8 := R.2.1.1.1
  have ef := c_find R w
  unfold wdEvent
  cases e : flw W w with
  | none =>
    rw [e] at ef
    have ef : f_X10_find 8 w h = some (0, h) := ef
    simp only [f_X10_event, o10, o00, bh, isO, inR, ck_true, bind_some9, Nat.reduceLeDiff, Nat.reduceEqDiff, and_self, and_true, true_and, false_and, and_false, not_false_eq_true, not_true_eq_false, or_self, or_false, false_or, if_true, if_false, reduceIte, zR_pE, zT_pE, zL_pE, zn_pE, zE_pE, zI_pE, zQ_pE, zJ_pE, zR_pI, zT_pI, zL_pI, zn_pI, zE_pI, zI_pI, zQ_pI, zJ_pI, zR_pR, zT_pR, zL_pR, zn_pR, zE_pR, zI_pR, zQ_pR, zJ_pR, zR_pJ, zT_pJ, zL_pJ, zn_pJ, zE_pJ, zI_pJ, zQ_pJ, zJ_pJ, o8, ef]
    rfl
  | some sn =>
    obtain ⟨s, n⟩ := sn
    rw [e] at ef
    have ef : f_X10_find 8 w h = some (wfA s n, h) := ef
    obtain ⟨a, ha, ea, es, en, hs, hn, hn16, k, wf⟩ := flw_at R e
    have ne := wfA_ne s n
    obtain ⟨⟨oW, -, -, r1002, -⟩, -, ⟨oH, r200, r201, r202, r203⟩, ⟨o3, o4, o5, o6⟩, ⟨l3, l4, l5, l6⟩, -⟩ := id wf.1
    have e204 := wf.2.1.1.1
    have h60 := wf.2.1.1.2
    simp only []
    by_cases c0 : x < 0
    · rw [if_pos (Or.inl c0)]
      simp only [f_X10_event, o10, o00, bh, isO, inR, ck_true, bind_some9, Nat.reduceLeDiff, Nat.reduceEqDiff, and_self, and_true, true_and, false_and, and_false, not_false_eq_true, not_true_eq_false, or_self, or_false, false_or, if_true, if_false, reduceIte, zR_pE, zT_pE, zL_pE, zn_pE, zE_pE, zI_pE, zQ_pE, zJ_pE, zR_pI, zT_pI, zL_pI, zn_pI, zE_pI, zI_pI, zQ_pI, zJ_pI, zR_pR, zT_pR, zL_pR, zn_pR, zE_pR, zI_pR, zQ_pR, zJ_pR, zR_pJ, zT_pJ, zL_pJ, zn_pJ, zE_pJ, zI_pJ, zQ_pJ, zJ_pJ, o8, ef, ne, c0]
      rfl
    · by_cases cl : nI (flE (shF (W s) n)).length ≤ x
      · rw [if_pos (Or.inr cl)]
        have cl : (x < nI (flE (shF (W s) n)).length) = False := eq_false (Int32.not_lt.mpr cl)
        simp only [f_X10_event, o10, o00, bh, isO, inR, ck_true, bind_some9, Nat.reduceLeDiff, Nat.reduceEqDiff, and_self, and_true, true_and, false_and, and_false, not_false_eq_true, not_true_eq_false, or_self, or_false, false_or, if_true, if_false, reduceIte, zR_pE, zT_pE, zL_pE, zn_pE, zE_pE, zI_pE, zQ_pE, zJ_pE, zR_pI, zT_pI, zL_pI, zn_pI, zE_pI, zI_pI, zQ_pI, zJ_pI, zR_pR, zT_pR, zL_pR, zn_pR, zE_pR, zI_pR, zQ_pR, zJ_pR, zR_pJ, zT_pJ, zL_pJ, zn_pJ, zE_pJ, zI_pJ, zQ_pJ, zJ_pJ, o8, ef, ne, c0, oW, r1002, oH, e204, cl]
        rfl
      · rw [if_neg (fun z => z.elim c0 cl)]
        have cle : (x < nI (flE (shF (W s) n)).length) = True := eq_true (Int32.not_le.mp cl)
        obtain ⟨b, hb, eb⟩ := zi_of c0
        have nb : (nI b).toNatClampNeg = b := zi_nat hb
        rw [eb] at cle
        have bl : b < (flE (shF (W s) n)).length := (zi_lt hb (by omega)).mp (of_eq_true cle)
        rw [eb] at c0 ⊢
        have lb : ¬ 60 ≤ b := by omega
        obtain ⟨e3, e4, e5, e6⟩ := wf.2.1.2 b _ (ev_get bl)
        rw [nb]
        by_cases q0 : q = 0
        · rw [if_neg (by rw [q0]; decide)]
          simp only [f_X10_event, o10, o00, bh, isO, inR, ck_true, bind_some9, Nat.reduceLeDiff, Nat.reduceEqDiff, and_self, and_true, true_and, false_and, and_false, not_false_eq_true, not_true_eq_false, or_self, or_false, false_or, if_true, if_false, reduceIte, zR_pE, zT_pE, zL_pE, zn_pE, zE_pE, zI_pE, zQ_pE, zJ_pE, zR_pI, zT_pI, zL_pI, zn_pI, zE_pI, zI_pI, zQ_pI, zJ_pI, zR_pR, zT_pR, zL_pR, zn_pR, zE_pR, zI_pR, zQ_pR, zJ_pR, zR_pJ, zT_pJ, zL_pJ, zn_pJ, zE_pJ, zI_pJ, zQ_pJ, zJ_pJ, o8, ef, ne, c0, oW, r1002, oH, e204, cle, eq_true q0, r200, o3, l3, nb, lb, e3]
          rfl
        · by_cases q1 : q = 1
          · rw [if_neg (by rw [q1]; decide)]
            simp only [f_X10_event, o10, o00, bh, isO, inR, ck_true, bind_some9, Nat.reduceLeDiff, Nat.reduceEqDiff, and_self, and_true, true_and, false_and, and_false, not_false_eq_true, not_true_eq_false, or_self, or_false, false_or, if_true, if_false, reduceIte, zR_pE, zT_pE, zL_pE, zn_pE, zE_pE, zI_pE, zQ_pE, zJ_pE, zR_pI, zT_pI, zL_pI, zn_pI, zE_pI, zI_pI, zQ_pI, zJ_pI, zR_pR, zT_pR, zL_pR, zn_pR, zE_pR, zI_pR, zQ_pR, zJ_pR, zR_pJ, zT_pJ, zL_pJ, zn_pJ, zE_pJ, zI_pJ, zQ_pJ, zJ_pJ, o8, ef, ne, c0, oW, r1002, oH, e204, cle, eq_false q0, eq_true q1, r201, o4, l4, nb, lb, e4]
            rfl
          · by_cases q2 : q = 2
            · rw [if_neg (by rw [q2]; decide)]
              simp only [f_X10_event, o10, o00, bh, isO, inR, ck_true, bind_some9, Nat.reduceLeDiff, Nat.reduceEqDiff, and_self, and_true, true_and, false_and, and_false, not_false_eq_true, not_true_eq_false, or_self, or_false, false_or, if_true, if_false, reduceIte, zR_pE, zT_pE, zL_pE, zn_pE, zE_pE, zI_pE, zQ_pE, zJ_pE, zR_pI, zT_pI, zL_pI, zn_pI, zE_pI, zI_pI, zQ_pI, zJ_pI, zR_pR, zT_pR, zL_pR, zn_pR, zE_pR, zI_pR, zQ_pR, zJ_pR, zR_pJ, zT_pJ, zL_pJ, zn_pJ, zE_pJ, zI_pJ, zQ_pJ, zJ_pJ, o8, ef, ne, c0, oW, r1002, oH, e204, cle, eq_false q0, eq_false q1, eq_true q2, r202, o5, l5, nb, lb, e5]
              rfl
            · by_cases q3 : q = 3
              · rw [if_neg (by rw [q3]; decide)]
                simp only [f_X10_event, o10, o00, bh, isO, inR, ck_true, bind_some9, Nat.reduceLeDiff, Nat.reduceEqDiff, and_self, and_true, true_and, false_and, and_false, not_false_eq_true, not_true_eq_false, or_self, or_false, false_or, if_true, if_false, reduceIte, zR_pE, zT_pE, zL_pE, zn_pE, zE_pE, zI_pE, zQ_pE, zJ_pE, zR_pI, zT_pI, zL_pI, zn_pI, zE_pI, zI_pI, zQ_pI, zJ_pI, zR_pR, zT_pR, zL_pR, zn_pR, zE_pR, zI_pR, zQ_pR, zJ_pR, zR_pJ, zT_pJ, zL_pJ, zn_pJ, zE_pJ, zI_pJ, zQ_pJ, zJ_pJ, o8, ef, ne, c0, oW, r1002, oH, e204, cle, eq_false q0, eq_false q1, eq_false q2, eq_true q3, r203, o6, l6, nb, lb, e6]
                rfl
              · rw [if_pos (by
                  by_cases z : q < 0
                  · exact Or.inl z
                  · obtain ⟨c, hc, ec⟩ := zi_of z
                    rw [ec] at q0 q1 q2 q3 ⊢
                    refine Or.inr ((zi_le (a := 4) (by omega) hc).mpr ?_)
                    have z0 : c ≠ 0 := fun z => q0 (by rw [z]; rfl)
                    have z1 : c ≠ 1 := fun z => q1 (by rw [z]; rfl)
                    have z2 : c ≠ 2 := fun z => q2 (by rw [z]; rfl)
                    have z3 : c ≠ 3 := fun z => q3 (by rw [z]; rfl)
                    omega)]
                simp only [f_X10_event, o10, o00, bh, isO, inR, ck_true, bind_some9, Nat.reduceLeDiff, Nat.reduceEqDiff, and_self, and_true, true_and, false_and, and_false, not_false_eq_true, not_true_eq_false, or_self, or_false, false_or, if_true, if_false, reduceIte, zR_pE, zT_pE, zL_pE, zn_pE, zE_pE, zI_pE, zQ_pE, zJ_pE, zR_pI, zT_pI, zL_pI, zn_pI, zE_pI, zI_pI, zQ_pI, zJ_pI, zR_pR, zT_pR, zL_pR, zn_pR, zE_pR, zI_pR, zQ_pR, zJ_pR, zR_pJ, zT_pJ, zL_pJ, zn_pJ, zE_pJ, zI_pJ, zQ_pJ, zJ_pJ, o8, ef, ne, c0, oW, r1002, oH, e204, cle, eq_false q0, eq_false q1, eq_false q2, eq_false q3]
                rfl
theorem tskN_nxt (g : Shd) (b : Bool) (k : Nat) : tskN g b (k + 1) = tskN g b k + if (decide (wkP (flW (shF g k)) = 0) && (!b || decide (flK (shF g k) ≠ 0))) = true then 1 else 0 := by
  unfold tskN
  rw [List.range_succ, List.filter_append, List.length_append]
  congr 1
  rw [List.filter_cons]
  split <;> rfl
theorem tskN_lq (g : Shd) (b : Bool) (k : Nat) : tskN g b k ≤ k := by
  unfold tskN
  have := List.length_filter_le (fun n => decide (wkP (flW (shF g n)) = 0) && (!b || decide (flK (shF g n) ≠ 0))) (List.range k)
  rw [List.length_range] at this
  exact this
theorem c_tasks_go {s v : Nat} {u : Nat → Nat} {q : Shd} {C : List Rec} (hv : vsOK vs) (k : shC h own s u v q) (hI : ShI vs q C) (hk : ∀ n, n < shN q → flK (shF q n) = 0 ∨ 0 < flK (shF q n)) (b : Bool) : ∀ (m n fuel : Nat), n + m = shN q → m < fuel → f_X6_countTasks_4 fuel (shA s) (if b = true then 1 else 0) (nI (tskN q b n)) (nI n) h = some (nI (tskN q b (shN q)), h)
  | m, n, 0, _, hf => absurd hf (Nat.not_lt_zero _)
  | 0, n, fuel + 1, hn, hf => by
    have hN := k.2.2.2.2.1.1
    have e10 : zI h 710 (shA s) = nI (shN q) := k.2.1.2.2.2.1
    have c : nI (shN q) ≤ nI n := (zi_le (by omega) (by omega)).mpr (by omega)
    have oA := k.1.1.1
    have e : n = shN q := by omega
    rw [e] at c ⊢
    simp only [f_X6_countTasks_4, o10, o00, bh, isO, inR, ck_true, bind_some9, Nat.reduceLeDiff, Nat.reduceEqDiff, and_self, and_true, true_and, false_and, and_false, not_false_eq_true, not_true_eq_false, or_self, or_false, false_or, if_true, if_false, reduceIte, zR_pE, zT_pE, zL_pE, zn_pE, zE_pE, zI_pE, zQ_pE, zJ_pE, zR_pI, zT_pI, zL_pI, zn_pI, zE_pI, zI_pI, zQ_pI, zJ_pI, zR_pR, zT_pR, zL_pR, zn_pR, zE_pR, zI_pR, zQ_pR, zJ_pR, zR_pJ, zT_pJ, zL_pJ, zn_pJ, zE_pJ, zI_pJ, zQ_pJ, zJ_pJ, oA, e10, c]
  | m + 1, n, fuel + 1, hn, hf => by
    have hN := k.2.2.2.2.1.1
    have hnq : n < shN q := by omega
    have e10 : zI h 710 (shA s) = nI (shN q) := k.2.1.2.2.2.1
    have c : (nI (shN q) ≤ nI n) = False := eq_false (zi_le0 (by omega) (by omega) (by omega))
    obtain ⟨⟨⟨oA, -, -, -, -, r704, -⟩, -, ⟨o2, l2, q2⟩, -, -⟩, -⟩ := id k
    have nn : (nI n).toNatClampNeg = n := zi_nat (by omega)
    have gn : ¬ nI n < 0 := zi_neg (by omega)
    have ln : ¬ 16 ≤ n := by omega
    have qn : zQ h (shA s + 2) n = wfA s n := q2 _ (by omega)
    have wf : wfC h (wfA s n) (s + 4 * n) (shF q n) := k.2.2.2.1 _ (by omega)
    have oW := wf.1.1.1
    have r1003 := wf.1.1.2.2.2.2
    have oT := wf.1.2.2.2.2.2
    have wP := wf.2.2.1.2.2.2.1
    have t4 := wf.2.2.2.2.2.2.2.1
    have hP : wkP (flW (shF q n)) ≤ 5 := (row_ok hv hI hnq).2.2.2.2.1.2.2.2.2.1
    have i0 : (nI (wkP (flW (shF q n))) = 0) = (wkP (flW (shF q n)) = 0) := propext (zi_eq (b := 0) (by omega) (by omega))
    have ih := c_tasks_go hv k hI hk b m (n + 1) fuel (by omega) (by omega)
    rw [tskN_nxt] at ih
    have le := tskN_lq q b n
    have a1 : nI (tskN q b n) + (1 : Int32) = nI (tskN q b n + 1) := zi_one _
    have a0 : nI (tskN q b n) + (0 : Int32) = nI (tskN q b n) := Int32.add_zero _
    by_cases c0 : wkP (flW (shF q n)) = 0
    · rw [decide_eq_true c0, Bool.true_and] at ih
      cases b with
      | false =>
        have hx : (if (!false || decide (flK (shF q n) ≠ 0)) = true then 1 else 0) = 1 := if_pos (by simp)
        have hb : (if false = true then (1 : Int32) else 0) = 0 := rfl
        rw [hx, hb] at ih
        rw [← ih, hb]
        simp only [f_X6_countTasks_4, f_X6_countTasks_43, f_X6_countTasks_48, f_X6_countTasks_61, o10, o00, bh, isO, inR, ck_true, bind_some9, Nat.reduceLeDiff, Nat.reduceEqDiff, and_self, and_true, true_and, false_and, and_false, not_false_eq_true, not_true_eq_false, or_self, or_false, false_or, if_true, if_false, reduceIte, zR_pE, zT_pE, zL_pE, zn_pE, zE_pE, zI_pE, zQ_pE, zJ_pE, zR_pI, zT_pI, zL_pI, zn_pI, zE_pI, zI_pI, zQ_pI, zJ_pI, zR_pR, zT_pR, zL_pR, zn_pR, zE_pR, zI_pR, zQ_pR, zJ_pR, zR_pJ, zT_pJ, zL_pJ, zn_pJ, zE_pJ, zI_pJ, zQ_pJ, zJ_pJ, oA, e10, c, r704, o2, l2, nn, gn, ln, qn, oW, wP, i0, eq_true c0, a1, zi_one]
      | true =>
        have k1 : ((1 : Int32) = 0) = False := eq_false (by decide)
        rcases hk n hnq with z | z
        · have hx : (if (!true || decide (flK (shF q n) ≠ 0)) = true then 1 else 0) = 0 := if_neg (by rw [z]; simp)
          have hb : (if true = true then (1 : Int32) else 0) = 1 := rfl
          rw [hx, hb] at ih
          rw [← ih, hb]
          have d : (flK (shF q n) ≤ 0) = True := eq_true (by rw [z]; decide)
          simp only [f_X6_countTasks_4, f_X6_countTasks_47, f_X6_countTasks_48, f_X6_countTasks_61, o10, o00, bh, isO, inR, ck_true, bind_some9, Nat.reduceLeDiff, Nat.reduceEqDiff, and_self, and_true, true_and, false_and, and_false, not_false_eq_true, not_true_eq_false, or_self, or_false, false_or, if_true, if_false, reduceIte, zR_pE, zT_pE, zL_pE, zn_pE, zE_pE, zI_pE, zQ_pE, zJ_pE, zR_pI, zT_pI, zL_pI, zn_pI, zE_pI, zI_pI, zQ_pI, zJ_pI, zR_pR, zT_pR, zL_pR, zn_pR, zE_pR, zI_pR, zQ_pR, zJ_pR, zR_pJ, zT_pJ, zL_pJ, zn_pJ, zE_pJ, zI_pJ, zQ_pJ, zJ_pJ, oA, e10, c, r704, o2, l2, nn, gn, ln, qn, oW, wP, i0, eq_true c0, k1, r1003, oT, t4, d, a0, Nat.add_zero, zi_one]
        · have hx : (if (!true || decide (flK (shF q n) ≠ 0)) = true then 1 else 0) = 1 := if_pos (by simp; exact pos_ne z)
          have hb : (if true = true then (1 : Int32) else 0) = 1 := rfl
          rw [hx, hb] at ih
          rw [← ih, hb]
          have d : (flK (shF q n) ≤ 0) = False := eq_false (Int32.not_le.mpr z)
          simp only [f_X6_countTasks_4, f_X6_countTasks_43, f_X6_countTasks_48, f_X6_countTasks_61, o10, o00, bh, isO, inR, ck_true, bind_some9, Nat.reduceLeDiff, Nat.reduceEqDiff, and_self, and_true, true_and, false_and, and_false, not_false_eq_true, not_true_eq_false, or_self, or_false, false_or, if_true, if_false, reduceIte, zR_pE, zT_pE, zL_pE, zn_pE, zE_pE, zI_pE, zQ_pE, zJ_pE, zR_pI, zT_pI, zL_pI, zn_pI, zE_pI, zI_pI, zQ_pI, zJ_pI, zR_pR, zT_pR, zL_pR, zn_pR, zE_pR, zI_pR, zQ_pR, zJ_pR, zR_pJ, zT_pJ, zL_pJ, zn_pJ, zE_pJ, zI_pJ, zQ_pJ, zJ_pJ, oA, e10, c, r704, o2, l2, nn, gn, ln, qn, oW, wP, i0, eq_true c0, k1, r1003, oT, t4, d, a1, zi_one]
    · have hx : (if false = true then 1 else 0) = 0 := rfl
      rw [decide_eq_false c0, Bool.false_and, hx] at ih
      rw [← ih]
      simp only [f_X6_countTasks_4, f_X6_countTasks_47, f_X6_countTasks_48, f_X6_countTasks_61, o10, o00, bh, isO, inR, ck_true, bind_some9, Nat.reduceLeDiff, Nat.reduceEqDiff, and_self, and_true, true_and, false_and, and_false, not_false_eq_true, not_true_eq_false, or_self, or_false, false_or, if_true, if_false, reduceIte, zR_pE, zT_pE, zL_pE, zn_pE, zE_pE, zI_pE, zQ_pE, zJ_pE, zR_pI, zT_pI, zL_pI, zn_pI, zE_pI, zI_pI, zQ_pI, zJ_pI, zR_pR, zT_pR, zL_pR, zn_pR, zE_pR, zI_pR, zQ_pR, zJ_pR, zR_pJ, zT_pJ, zL_pJ, zn_pJ, zE_pJ, zI_pJ, zQ_pJ, zJ_pJ, oA, e10, c, r704, o2, l2, nn, gn, ln, qn, oW, wP, i0, eq_false c0, a0, Nat.add_zero, zi_one]
theorem c_shard (hv : vsOK vs) (S : WdS vs K W) (R : CW vs now h own u v W) {tk : Nat} (T : WdT tk W) (htk : tk < 1000000) (s q : Int32) : f_X10_shard 8 s q h = some (wdShard W s q, h) := by
  obtain ⟨⟨o8, -, r1, -, r3⟩, o13, l13, q13⟩ := id R.2.1
  unfold wdShard
  by_cases c0 : s < 0
  · rw [if_pos (Or.inl c0)]
    simp only [f_X10_shard, o10, o00, bh, isO, inR, ck_true, bind_some9, Nat.reduceLeDiff, Nat.reduceEqDiff, and_self, and_true, true_and, false_and, and_false, not_false_eq_true, not_true_eq_false, or_self, or_false, false_or, if_true, if_false, reduceIte, zR_pE, zT_pE, zL_pE, zn_pE, zE_pE, zI_pE, zQ_pE, zJ_pE, zR_pI, zT_pI, zL_pI, zn_pI, zE_pI, zI_pI, zQ_pI, zJ_pI, zR_pR, zT_pR, zL_pR, zn_pR, zE_pR, zI_pR, zQ_pR, zJ_pR, zR_pJ, zT_pJ, zL_pJ, zn_pJ, zE_pJ, zI_pJ, zQ_pJ, zJ_pJ, c0]
  · by_cases c4 : (4 : Int32) ≤ s
    · rw [if_pos (Or.inr c4)]
      have c4 : (s < (4 : Int32)) = False := eq_false (Int32.not_lt.mpr c4)
      simp only [f_X10_shard, o10, o00, bh, isO, inR, ck_true, bind_some9, Nat.reduceLeDiff, Nat.reduceEqDiff, and_self, and_true, true_and, false_and, and_false, not_false_eq_true, not_true_eq_false, or_self, or_false, false_or, if_true, if_false, reduceIte, zR_pE, zT_pE, zL_pE, zn_pE, zE_pE, zI_pE, zQ_pE, zJ_pE, zR_pI, zT_pI, zL_pI, zn_pI, zE_pI, zI_pI, zQ_pI, zJ_pI, zR_pR, zT_pR, zL_pR, zn_pR, zE_pR, zI_pR, zQ_pR, zJ_pR, zR_pJ, zT_pJ, zL_pJ, zn_pJ, zE_pJ, zI_pJ, zQ_pJ, zJ_pJ, c0, c4]
    · rw [if_neg (fun z => z.elim c0 c4)]
      have c4e : (s < (4 : Int32)) = True := eq_true (Int32.not_le.mp c4)
      obtain ⟨a, ha, ea⟩ := zi_of c0
      have na : (nI a).toNatClampNeg = a := zi_nat ha
      have a4 : a < 4 := by
        rw [ea] at c4
        by_cases z : a < 4
        · exact z
        · exact absurd ((zi_le (a := 4) (b := a) (by omega) ha).mpr (by omega)) c4
      have la : ¬ 4 ≤ a := by omega
      have qa := q13 a a4
      have k := R.2.2 a a4
      obtain ⟨C, hS, hY⟩ := S a a4
      obtain ⟨⟨⟨oA, -, -, -, -, -, -, r706⟩, -, -, -, o4⟩, ⟨e7, e8, e9, e10, -⟩, -⟩ := id k
      rw [ea] at c0 c4e ⊢
      simp only [na]
      have hN := k.2.2.2.2.1.1
      have hk : ∀ n, n < shN (W a) → flK (shF (W a) n) = 0 ∨ 0 < flK (shF (W a) n) := fun n hn => by
        rcases T.1 a n a4 hn with z | ⟨t, t1, t2, z⟩
        · exact Or.inl z
        · right
          rw [z]
          exact (zi_lt (a := 0) (by omega) (by omega)).mpr (by omega)
      have ct : ∀ b : Bool, f_X6_countTasks (shA a) (if b = true then 1 else 0) h = some (nI (tskN (W a) b (shN (W a))), h) := fun b => c_tasks_go hv k hS.1 hk b (shN (W a)) 0 fz (by omega) (fz_big (by omega))
      have ct0 : f_X6_countTasks (shA a) 0 h = some (nI (tskN (W a) false (shN (W a))), h) := ct false
      have ct1 : f_X6_countTasks (shA a) 1 h = some (nI (tskN (W a) true (shN (W a))), h) := ct true
      have ob : zI h 303 (shA a + 4) = nI (shO (W a)).length := by
        obtain ⟨x, y, z, -, -, -, -, ⟨e, -⟩, -⟩ := k.2.2.2.2.2
        exact e
      by_cases q0 : q = 0
      · rw [if_pos q0]
        simp only [f_X10_shard, o10, o00, bh, isO, inR, ck_true, bind_some9, Nat.reduceLeDiff, Nat.reduceEqDiff, and_self, and_true, true_and, false_and, and_false, not_false_eq_true, not_true_eq_false, or_self, or_false, false_or, if_true, if_false, reduceIte, zR_pE, zT_pE, zL_pE, zn_pE, zE_pE, zI_pE, zQ_pE, zJ_pE, zR_pI, zT_pI, zL_pI, zn_pI, zE_pI, zI_pI, zQ_pI, zJ_pI, zR_pR, zT_pR, zL_pR, zn_pR, zE_pR, zI_pR, zQ_pR, zJ_pR, zR_pJ, zT_pJ, zL_pJ, zn_pJ, zE_pJ, zI_pJ, zQ_pJ, zJ_pJ, c0, c4e, eq_true q0, o8, r3, o13, l13, na, la, qa, oA, e8]
      · rw [if_neg q0]
        by_cases q1 : q = 1
        · rw [if_pos q1]
          simp only [f_X10_shard, o10, o00, bh, isO, inR, ck_true, bind_some9, Nat.reduceLeDiff, Nat.reduceEqDiff, and_self, and_true, true_and, false_and, and_false, not_false_eq_true, not_true_eq_false, or_self, or_false, false_or, if_true, if_false, reduceIte, zR_pE, zT_pE, zL_pE, zn_pE, zE_pE, zI_pE, zQ_pE, zJ_pE, zR_pI, zT_pI, zL_pI, zn_pI, zE_pI, zI_pI, zQ_pI, zJ_pI, zR_pR, zT_pR, zL_pR, zn_pR, zE_pR, zI_pR, zQ_pR, zJ_pR, zR_pJ, zT_pJ, zL_pJ, zn_pJ, zE_pJ, zI_pJ, zQ_pJ, zJ_pJ, c0, c4e, eq_false q0, eq_true q1, o8, r3, o13, l13, na, la, qa, oA, e9]
        · rw [if_neg q1]
          by_cases q2 : q = 2
          · rw [if_pos q2]
            simp only [f_X10_shard, o10, o00, bh, isO, inR, ck_true, bind_some9, Nat.reduceLeDiff, Nat.reduceEqDiff, and_self, and_true, true_and, false_and, and_false, not_false_eq_true, not_true_eq_false, or_self, or_false, false_or, if_true, if_false, reduceIte, zR_pE, zT_pE, zL_pE, zn_pE, zE_pE, zI_pE, zQ_pE, zJ_pE, zR_pI, zT_pI, zL_pI, zn_pI, zE_pI, zI_pI, zQ_pI, zJ_pI, zR_pR, zT_pR, zL_pR, zn_pR, zE_pR, zI_pR, zQ_pR, zJ_pR, zR_pJ, zT_pJ, zL_pJ, zn_pJ, zE_pJ, zI_pJ, zQ_pJ, zJ_pJ, c0, c4e, eq_false q0, eq_false q1, eq_true q2, o8, r3, o13, l13, na, la, qa, oA, e7]
          · rw [if_neg q2]
            by_cases q3 : q = 3
            · rw [if_pos q3]
              simp only [f_X10_shard, o10, o00, bh, isO, inR, ck_true, bind_some9, Nat.reduceLeDiff, Nat.reduceEqDiff, and_self, and_true, true_and, false_and, and_false, not_false_eq_true, not_true_eq_false, or_self, or_false, false_or, if_true, if_false, reduceIte, zR_pE, zT_pE, zL_pE, zn_pE, zE_pE, zI_pE, zQ_pE, zJ_pE, zR_pI, zT_pI, zL_pI, zn_pI, zE_pI, zI_pI, zQ_pI, zJ_pI, zR_pR, zT_pR, zL_pR, zn_pR, zE_pR, zI_pR, zQ_pR, zJ_pR, zR_pJ, zT_pJ, zL_pJ, zn_pJ, zE_pJ, zI_pJ, zQ_pJ, zJ_pJ, c0, c4e, eq_false q0, eq_false q1, eq_false q2, eq_true q3, o8, r3, o13, l13, na, la, qa, oA, e10]
            · rw [if_neg q3]
              by_cases q4 : q = 4
              · rw [if_pos q4]
                simp only [f_X10_shard, o10, o00, bh, isO, inR, ck_true, bind_some9, Nat.reduceLeDiff, Nat.reduceEqDiff, and_self, and_true, true_and, false_and, and_false, not_false_eq_true, not_true_eq_false, or_self, or_false, false_or, if_true, if_false, reduceIte, zR_pE, zT_pE, zL_pE, zn_pE, zE_pE, zI_pE, zQ_pE, zJ_pE, zR_pI, zT_pI, zL_pI, zn_pI, zE_pI, zI_pI, zQ_pI, zJ_pI, zR_pR, zT_pR, zL_pR, zn_pR, zE_pR, zI_pR, zQ_pR, zJ_pR, zR_pJ, zT_pJ, zL_pJ, zn_pJ, zE_pJ, zI_pJ, zQ_pJ, zJ_pJ, c0, c4e, eq_false q0, eq_false q1, eq_false q2, eq_false q3, eq_true q4, o8, r3, o13, l13, na, la, qa, oA, r706, o4, ob]
              · rw [if_neg q4]
                by_cases q5 : q = 5
                · rw [if_pos q5]
                  simp only [f_X10_shard, o10, o00, bh, isO, inR, ck_true, bind_some9, Nat.reduceLeDiff, Nat.reduceEqDiff, and_self, and_true, true_and, false_and, and_false, not_false_eq_true, not_true_eq_false, or_self, or_false, false_or, if_true, if_false, reduceIte, zR_pE, zT_pE, zL_pE, zn_pE, zE_pE, zI_pE, zQ_pE, zJ_pE, zR_pI, zT_pI, zL_pI, zn_pI, zE_pI, zI_pI, zQ_pI, zJ_pI, zR_pR, zT_pR, zL_pR, zn_pR, zE_pR, zI_pR, zQ_pR, zJ_pR, zR_pJ, zT_pJ, zL_pJ, zn_pJ, zE_pJ, zI_pJ, zQ_pJ, zJ_pJ, c0, c4e, eq_false q0, eq_false q1, eq_false q2, eq_false q3, eq_false q4, eq_true q5, o8, r3, o13, l13, na, la, qa, oA, ct0]
                · rw [if_neg q5]
                  by_cases q6 : q = 6
                  · rw [if_pos q6]
                    simp only [f_X10_shard, o10, o00, bh, isO, inR, ck_true, bind_some9, Nat.reduceLeDiff, Nat.reduceEqDiff, and_self, and_true, true_and, false_and, and_false, not_false_eq_true, not_true_eq_false, or_self, or_false, false_or, if_true, if_false, reduceIte, zR_pE, zT_pE, zL_pE, zn_pE, zE_pE, zI_pE, zQ_pE, zJ_pE, zR_pI, zT_pI, zL_pI, zn_pI, zE_pI, zI_pI, zQ_pI, zJ_pI, zR_pR, zT_pR, zL_pR, zn_pR, zE_pR, zI_pR, zQ_pR, zJ_pR, zR_pJ, zT_pJ, zL_pJ, zn_pJ, zE_pJ, zI_pJ, zQ_pJ, zJ_pJ, c0, c4e, eq_false q0, eq_false q1, eq_false q2, eq_false q3, eq_false q4, eq_false q5, eq_true q6, o8, r3, o13, l13, na, la, qa, oA, ct1]
                  · rw [if_neg q6]
                    simp only [f_X10_shard, o10, o00, bh, isO, inR, ck_true, bind_some9, Nat.reduceLeDiff, Nat.reduceEqDiff, and_self, and_true, true_and, false_and, and_false, not_false_eq_true, not_true_eq_false, or_self, or_false, false_or, if_true, if_false, reduceIte, zR_pE, zT_pE, zL_pE, zn_pE, zE_pE, zI_pE, zQ_pE, zJ_pE, zR_pI, zT_pI, zL_pI, zn_pI, zE_pI, zI_pI, zQ_pI, zJ_pI, zR_pR, zT_pR, zL_pR, zn_pR, zE_pR, zI_pR, zQ_pR, zJ_pR, zR_pJ, zT_pJ, zL_pJ, zn_pJ, zE_pJ, zI_pJ, zQ_pJ, zJ_pJ, c0, c4e, eq_false q0, eq_false q1, eq_false q2, eq_false q3, eq_false q4, eq_false q5, eq_false q6]
end Calls
/-! CALLS OF THE CLASS: replicas -/
theorem shC.dk {h h1 : Hp} {own : Nat → Nat} {s v r : Nat} {u : Nat → Nat} {q : Shd} {d : Dk} (k : shC h own s u v q) (w : owS own) (hs : s < 4) (hr : r < 5) (f : cf (fun a j => a = shA s + (8 + 2 * r) ∧ 602 ≤ j ∧ j ≤ 604) h h1) (n : nz h h1) (e2 : zI h1 602 (shA s + (8 + 2 * r)) = nI (dkSz d)) (e3 : zI h1 603 (shA s + (8 + 2 * r)) = if dkU d = true then 1 else 0) (e4 : zI h1 604 (shA s + (8 + 2 * r)) = dkF d) (hsz : dkSz d ≤ dkSz (shD q r)) (hb : ∀ p, p < dkSz d → dkb d p = dkb (shD q r) p) (hT : dkT d < 16) (hm : dkM d) : shC h1 own s u v (shSetD q (upf (shD q) r d)) ∧ acC s h own u v h1 own u v := by
  obtain ⟨B, ⟨⟨y0, y1, ⟨y2, oB, lB, b1, b2⟩, ⟨y3, hle⟩, y5, y6, y7⟩, -⟩, oB2, -⟩ := k.2.2.1 r hr
  have ownD : own (shA s + (8 + 2 * r)) = 10 * s + 8 := ow_at w hs (by omega) (by omega) (by omega)
  have nB : B ≠ shA s + (8 + 2 * r) := fun z => by rw [z, ownD] at oB2; omega
  have dk : dkO h1 own s r (u r) d := by
    refine ⟨B, ⟨⟨f.O y0, (f.I y0 (by omega)).trans y1, ⟨(f.R y0 (by omega)).trans y2, f.O oB, (f.L oB).trans lB, b1, b2⟩, ⟨e2, by omega⟩, ⟨e3, e4⟩, fun p hp => ?_, fun p hp => ?_⟩, hT⟩, oB2, hm⟩
    · rw [f.E oB (fun z => nB z.1), hb p hp]
      exact y6 p (by omega)
    · rw [f.E oB (fun z => nB z.1)]
      exact y7 p hp
  have := k.disk (ur := u r) (d := d) w hs hr f (exO.rf own h) (fun a j z => Or.inl z.1) dk
  rw [upf_same] at this
  exact ⟨this, acC.nz (f.mono (fun p j _ z => by rw [z.1, ownD]; omega)) n⟩
def adR (o : Option (Nat × Nat)) : Nat := match o with
  | some (s, r) => shA s + (8 + 2 * r)
  | none => 0
section Calls
variable {vs : Nat → List Prg} {now : Int32} {K : Nat} {h : Hp} {own : Nat → Nat} {u : Nat → Nat → Nat} {v : Nat → Nat} {W : Wld}
theorem rplc_at (hK : K ≤ 2000) (S : WdS vs K W) (R : CW vs now h own u v W) {s r : Int32} {s1 r1 : Nat} (e : rplc W s r = some (s1, r1)) : s = nI s1 ∧ r = nI r1 ∧ s1 < 4 ∧ r1 < shZ (W s1) ∧ r1 < 5 ∧ shC h own s1 (u s1) (v s1) (W s1) := by
  unfold rplc at e
  by_cases c : s < 0 ∨ (4 : Int32) ≤ s ∨ r < 0 ∨ nI (shZ (W s.toNatClampNeg)) ≤ r
  · rw [if_pos c] at e; cases e
  · rw [if_neg c] at e
    have c0 : ¬ s < 0 := fun z => c (Or.inl z)
    have c1 : ¬ (4 : Int32) ≤ s := fun z => c (Or.inr (Or.inl z))
    have c2 : ¬ r < 0 := fun z => c (Or.inr (Or.inr (Or.inl z)))
    have c3 : ¬ nI (shZ (W s.toNatClampNeg)) ≤ r := fun z => c (Or.inr (Or.inr (Or.inr z)))
    obtain ⟨a, ha, ea⟩ := zi_of c0
    obtain ⟨b, hb, eb⟩ := zi_of c2
    have na : (nI a).toNatClampNeg = a := zi_nat ha
    have nb : (nI b).toNatClampNeg = b := zi_nat hb
    rw [ea] at c1
    have a4 : a < 4 := by
      by_cases z : a < 4
      · exact z
      · exact absurd ((zi_le (a := 4) (b := a) (by omega) ha).mpr (by omega)) c1
    rw [ea, eb, na, nb] at e
    rw [ea, eb, na] at c3
    obtain ⟨C, hS, hY⟩ := S a a4
    have z5 := (cm_ok hS.1 hY hK).1
    have bz : b < shZ (W a) := by
      by_cases z : b < shZ (W a)
      · exact z
      · exact absurd ((zi_le (by omega) hb).mpr (by omega)) c3
    have e := Option.some.inj e
    have e1 : a = s1 := congrArg Prod.fst e
    have e2 : b = r1 := congrArg Prod.snd e
    rw [e1] at ea a4 bz z5
    rw [e2] at eb bz
    exact ⟨ea, eb, a4, bz, by omega, R.2.2 s1 a4⟩
theorem c_findR (hK : K ≤ 2000) (S : WdS vs K W) (R : CW vs now h own u v W) (s r : Int32) : f_X10_findReplica 8 s r h = some (adR (rplc W s r), h) := by
  obtain ⟨⟨o8, -, r1, -, r3⟩, o13, l13, q13⟩ := id R.2.1
  cases e : rplc W s r with
  | some sr =>
    obtain ⟨s1, r1⟩ := sr
    obtain ⟨e1, e2, h4, hz, h5, k⟩ := rplc_at hK S R e
    obtain ⟨C, hS, hY⟩ := S s1 h4
    have z5 := (cm_ok hS.1 hY hK).1
    obtain ⟨⟨⟨oA, -, -, -, r703, -⟩, ⟨o1, l1, q1⟩, -⟩, ⟨e7, -⟩, -⟩ := id k
    have g1 : ¬ nI s1 < 0 := zi_neg (by omega)
    have g2 : ¬ nI r1 < 0 := zi_neg (by omega)
    have n1 : (nI s1).toNatClampNeg = s1 := zi_nat (by omega)
    have n2 : (nI r1).toNatClampNeg = r1 := zi_nat (by omega)
    have g3 : ((4 : Int32) ≤ nI s1) = False := eq_false (zi_le0 (a := 4) (by omega) (by omega) (by omega))
    have g4 : (nI r1 < nI (shZ (W s1))) = True := eq_true ((zi_lt (by omega) (by omega)).mpr hz)
    have l4 : ¬ 4 ≤ s1 := by omega
    have l5 : ¬ 5 ≤ r1 := by omega
    have qs := q13 s1 h4
    have qr := q1 r1 h5
    have : adR (some (s1, r1)) = shA s1 + (8 + 2 * r1) := rfl
    rw [this, e1, e2]
    simp only [f_X10_findReplica, o10, o00, bh, isO, inR, ck_true, bind_some9, Nat.reduceLeDiff, Nat.reduceEqDiff, and_self, and_true, true_and, false_and, and_false, not_false_eq_true, not_true_eq_false, or_self, or_false, false_or, if_true, if_false, reduceIte, zR_pE, zT_pE, zL_pE, zn_pE, zE_pE, zI_pE, zQ_pE, zJ_pE, zR_pI, zT_pI, zL_pI, zn_pI, zE_pI, zI_pI, zQ_pI, zJ_pI, zR_pR, zT_pR, zL_pR, zn_pR, zE_pR, zI_pR, zQ_pR, zJ_pR, zR_pJ, zT_pJ, zL_pJ, zn_pJ, zE_pJ, zI_pJ, zQ_pJ, zJ_pJ, g1, g2, g3, o8, r3, o13, l13, n1, l4, qs, oA, e7, g4, r703, o1, l1, n2, l5, qr]
  | none =>
    have : adR none = 0 := rfl
    rw [this]
    unfold rplc at e
    by_cases c0 : s < 0
    · simp only [f_X10_findReplica, o10, o00, bh, isO, inR, ck_true, bind_some9, Nat.reduceLeDiff, Nat.reduceEqDiff, and_self, and_true, true_and, false_and, and_false, not_false_eq_true, not_true_eq_false, or_self, or_false, false_or, if_true, if_false, reduceIte, zR_pE, zT_pE, zL_pE, zn_pE, zE_pE, zI_pE, zQ_pE, zJ_pE, zR_pI, zT_pI, zL_pI, zn_pI, zE_pI, zI_pI, zQ_pI, zJ_pI, zR_pR, zT_pR, zL_pR, zn_pR, zE_pR, zI_pR, zQ_pR, zJ_pR, zR_pJ, zT_pJ, zL_pJ, zn_pJ, zE_pJ, zI_pJ, zQ_pJ, zJ_pJ, c0]
    · by_cases c1 : (4 : Int32) ≤ s
      · simp only [f_X10_findReplica, o10, o00, bh, isO, inR, ck_true, bind_some9, Nat.reduceLeDiff, Nat.reduceEqDiff, and_self, and_true, true_and, false_and, and_false, not_false_eq_true, not_true_eq_false, or_self, or_false, false_or, if_true, if_false, reduceIte, zR_pE, zT_pE, zL_pE, zn_pE, zE_pE, zI_pE, zQ_pE, zJ_pE, zR_pI, zT_pI, zL_pI, zn_pI, zE_pI, zI_pI, zQ_pI, zJ_pI, zR_pR, zT_pR, zL_pR, zn_pR, zE_pR, zI_pR, zQ_pR, zJ_pR, zR_pJ, zT_pJ, zL_pJ, zn_pJ, zE_pJ, zI_pJ, zQ_pJ, zJ_pJ, c0, c1]
      · by_cases c2 : r < 0
        · simp only [f_X10_findReplica, o10, o00, bh, isO, inR, ck_true, bind_some9, Nat.reduceLeDiff, Nat.reduceEqDiff, and_self, and_true, true_and, false_and, and_false, not_false_eq_true, not_true_eq_false, or_self, or_false, false_or, if_true, if_false, reduceIte, zR_pE, zT_pE, zL_pE, zn_pE, zE_pE, zI_pE, zQ_pE, zJ_pE, zR_pI, zT_pI, zL_pI, zn_pI, zE_pI, zI_pI, zQ_pI, zJ_pI, zR_pR, zT_pR, zL_pR, zn_pR, zE_pR, zI_pR, zQ_pR, zJ_pR, zR_pJ, zT_pJ, zL_pJ, zn_pJ, zE_pJ, zI_pJ, zQ_pJ, zJ_pJ, c0, c1, c2]
        · obtain ⟨a, ha, ea⟩ := zi_of c0
          have na : (nI a).toNatClampNeg = a := zi_nat ha
          have a4 : a < 4 := by
            rw [ea] at c1
            by_cases z : a < 4
            · exact z
            · exact absurd ((zi_le (a := 4) (b := a) (by omega) ha).mpr (by omega)) c1
          by_cases c3 : nI (shZ (W s.toNatClampNeg)) ≤ r
          · have k := R.2.2 a a4
            obtain ⟨⟨⟨oA, -, -, -, r703, -⟩, -⟩, ⟨e7, -⟩, -⟩ := id k
            have l4 : ¬ 4 ≤ a := by omega
            have qs := q13 a a4
            rw [ea] at c0 c1 c3 ⊢
            rw [na] at c3
            have g4 : (r < nI (shZ (W a))) = False := eq_false (Int32.not_lt.mpr c3)
            simp only [f_X10_findReplica, o10, o00, bh, isO, inR, ck_true, bind_some9, Nat.reduceLeDiff, Nat.reduceEqDiff, and_self, and_true, true_and, false_and, and_false, not_false_eq_true, not_true_eq_false, or_self, or_false, false_or, if_true, if_false, reduceIte, zR_pE, zT_pE, zL_pE, zn_pE, zE_pE, zI_pE, zQ_pE, zJ_pE, zR_pI, zT_pI, zL_pI, zn_pI, zE_pI, zI_pI, zQ_pI, zJ_pI, zR_pR, zT_pR, zL_pR, zn_pR, zE_pR, zI_pR, zQ_pR, zJ_pR, zR_pJ, zT_pJ, zL_pJ, zn_pJ, zE_pJ, zI_pJ, zQ_pJ, zJ_pJ, c0, c1, c2, o8, r3, o13, l13, na, l4, qs, oA, e7, g4]
          · rw [if_neg (by
              rintro (z | z | z | z)
              · exact c0 z
              · exact c1 z
              · exact c2 z
              · exact c3 z)] at e
            cases e
theorem adR_ne (s r : Nat) : ¬ shA s + (8 + 2 * r) = 0 := by omega
/-- a disk of the heap -/
theorem c_dk {s v r : Nat} {u : Nat → Nat} {q : Shd} (k : shC h own s u v q) (hr : r < 5) : isO h (shA s + (8 + 2 * r)) 6 ∧ zI h 600 (shA s + (8 + 2 * r)) = nI r ∧ zI h 602 (shA s + (8 + 2 * r)) = nI (dkSz (shD q r)) ∧ zI h 603 (shA s + (8 + 2 * r)) = (if dkU (shD q r) = true then 1 else 0) ∧ zI h 604 (shA s + (8 + 2 * r)) = dkF (shD q r) ∧ dkT (shD q r) < 16 ∧ dkM (shD q r) ∧ ∃ B, dkC h (shA s + (8 + 2 * r)) B (u r) r (shD q r) := by
  obtain ⟨B, y, -, hm⟩ := k.2.2.1 r hr
  exact ⟨y.1.1, y.1.2.1, y.1.2.2.2.1.1, y.1.2.2.2.2.1.1, y.1.2.2.2.2.1.2, y.2, hm, B, y⟩
theorem c_replica (hK : K ≤ 2000) (S : WdS vs K W) (R : CW vs now h own u v W) (s r q : Int32) : f_X10_replica 8 s r q h = some (wdRepl W s r q, h) := by
  have o8 := R.2.1.1.1
  have ef := c_findR hK S R s r
  unfold wdRepl
  cases e : rplc W s r with
  | none =>
    rw [e] at ef
    have ef : f_X10_findReplica 8 s r h = some (0, h) := ef
    simp only [f_X10_replica, o10, o00, bh, isO, inR, ck_true, bind_some9, Nat.reduceLeDiff, Nat.reduceEqDiff, and_self, and_true, true_and, false_and, and_false, not_false_eq_true, not_true_eq_false, or_self, or_false, false_or, if_true, if_false, reduceIte, zR_pE, zT_pE, zL_pE, zn_pE, zE_pE, zI_pE, zQ_pE, zJ_pE, zR_pI, zT_pI, zL_pI, zn_pI, zE_pI, zI_pI, zQ_pI, zJ_pI, zR_pR, zT_pR, zL_pR, zn_pR, zE_pR, zI_pR, zQ_pR, zJ_pR, zR_pJ, zT_pJ, zL_pJ, zn_pJ, zE_pJ, zI_pJ, zQ_pJ, zJ_pJ, o8, ef]
  | some sr =>
    obtain ⟨s1, r1⟩ := sr
    rw [e] at ef
    have ef : f_X10_findReplica 8 s r h = some (shA s1 + (8 + 2 * r1), h) := ef
    obtain ⟨e1, e2, h4, hz, h5, k⟩ := rplc_at hK S R e
    obtain ⟨C, hS, hY⟩ := S s1 h4
    have len := ((cm_ok hS.1 hY hK).2.2.2.1 r1 hz).2
    obtain ⟨oD, d0, d2, d3, d4, dT, -, -⟩ := c_dk k h5
    have ne := adR_ne s1 r1
    have dv : nI (dkSz (shD (W s1) r1)) / (16 : Int32) = nI (dkL (shD (W s1) r1)).length := by
      have : nI (dkSz (shD (W s1) r1)) / nI 16 = nI (dkSz (shD (W s1) r1) / 16) := zi_div (by unfold dkSz; omega) (by omega) (by omega)
      rw [show (16 : Int32) = nI 16 from rfl, this]
      congr 1
      unfold dkSz
      omega
    have md : nI (dkSz (shD (W s1) r1)) - nI (dkL (shD (W s1) r1)).length * (16 : Int32) = nI (dkT (shD (W s1) r1)) := by
      rw [show (16 : Int32) = nI 16 from rfl, zi_mul, zi_sub (by unfold dkSz; omega)]
      congr 1
      unfold dkSz
      omega
    simp only []
    by_cases q0 : q = 0
    · rw [if_pos q0]
      by_cases cu : dkU (shD (W s1) r1) = true
      · rw [if_pos cu] at d3 ⊢
        simp only [f_X10_replica, o10, o00, bh, isO, inR, ck_true, bind_some9, Nat.reduceLeDiff, Nat.reduceEqDiff, and_self, and_true, true_and, false_and, and_false, not_false_eq_true, not_true_eq_false, or_self, or_false, false_or, if_true, if_false, reduceIte, zR_pE, zT_pE, zL_pE, zn_pE, zE_pE, zI_pE, zQ_pE, zJ_pE, zR_pI, zT_pI, zL_pI, zn_pI, zE_pI, zI_pI, zQ_pI, zJ_pI, zR_pR, zT_pR, zL_pR, zn_pR, zE_pR, zI_pR, zQ_pR, zJ_pR, zR_pJ, zT_pJ, zL_pJ, zn_pJ, zE_pJ, zI_pJ, zQ_pJ, zJ_pJ, o8, ef, ne, eq_true q0, oD, d3, show ((1 : Int32) = 0) = False from eq_false (by decide)]
      · rw [if_neg cu] at d3 ⊢
        simp only [f_X10_replica, o10, o00, bh, isO, inR, ck_true, bind_some9, Nat.reduceLeDiff, Nat.reduceEqDiff, and_self, and_true, true_and, false_and, and_false, not_false_eq_true, not_true_eq_false, or_self, or_false, false_or, if_true, if_false, reduceIte, zR_pE, zT_pE, zL_pE, zn_pE, zE_pE, zI_pE, zQ_pE, zJ_pE, zR_pI, zT_pI, zL_pI, zn_pI, zE_pI, zI_pI, zQ_pI, zJ_pI, zR_pR, zT_pR, zL_pR, zn_pR, zE_pR, zI_pR, zQ_pR, zJ_pR, zR_pJ, zT_pJ, zL_pJ, zn_pJ, zE_pJ, zI_pJ, zQ_pJ, zJ_pJ, o8, ef, ne, eq_true q0, oD, d3]
    · rw [if_neg q0]
      by_cases q1 : q = 1
      · rw [if_pos q1]
        simp only [f_X10_replica, o10, o00, bh, isO, inR, ck_true, bind_some9, Nat.reduceLeDiff, Nat.reduceEqDiff, and_self, and_true, true_and, false_and, and_false, not_false_eq_true, not_true_eq_false, or_self, or_false, false_or, if_true, if_false, reduceIte, zR_pE, zT_pE, zL_pE, zn_pE, zE_pE, zI_pE, zQ_pE, zJ_pE, zR_pI, zT_pI, zL_pI, zn_pI, zE_pI, zI_pI, zQ_pI, zJ_pI, zR_pR, zT_pR, zL_pR, zn_pR, zE_pR, zI_pR, zQ_pR, zJ_pR, zR_pJ, zT_pJ, zL_pJ, zn_pJ, zE_pJ, zI_pJ, zQ_pJ, zJ_pJ, o8, ef, ne, eq_false q0, eq_true q1, oD, d2, dv]
      · rw [if_neg q1]
        by_cases q2 : q = 2
        · rw [if_pos q2]
          simp only [f_X10_replica, o10, o00, bh, isO, inR, ck_true, bind_some9, Nat.reduceLeDiff, Nat.reduceEqDiff, and_self, and_true, true_and, false_and, and_false, not_false_eq_true, not_true_eq_false, or_self, or_false, false_or, if_true, if_false, reduceIte, zR_pE, zT_pE, zL_pE, zn_pE, zE_pE, zI_pE, zQ_pE, zJ_pE, zR_pI, zT_pI, zL_pI, zn_pI, zE_pI, zI_pI, zQ_pI, zJ_pI, zR_pR, zT_pR, zL_pR, zn_pR, zE_pR, zI_pR, zQ_pR, zJ_pR, zR_pJ, zT_pJ, zL_pJ, zn_pJ, zE_pJ, zI_pJ, zQ_pJ, zJ_pJ, o8, ef, ne, eq_false q0, eq_false q1, eq_true q2, oD, d2, dv, md]
        · rw [if_neg q2]
          by_cases q3 : q = 3
          · rw [if_pos q3]
            simp only [f_X10_replica, o10, o00, bh, isO, inR, ck_true, bind_some9, Nat.reduceLeDiff, Nat.reduceEqDiff, and_self, and_true, true_and, false_and, and_false, not_false_eq_true, not_true_eq_false, or_self, or_false, false_or, if_true, if_false, reduceIte, zR_pE, zT_pE, zL_pE, zn_pE, zE_pE, zI_pE, zQ_pE, zJ_pE, zR_pI, zT_pI, zL_pI, zn_pI, zE_pI, zI_pI, zQ_pI, zJ_pI, zR_pR, zT_pR, zL_pR, zn_pR, zE_pR, zI_pR, zQ_pR, zJ_pR, zR_pJ, zT_pJ, zL_pJ, zn_pJ, zE_pJ, zI_pJ, zQ_pJ, zJ_pJ, o8, ef, ne, eq_false q0, eq_false q1, eq_false q2, eq_true q3, oD, d4]
          · rw [if_neg q3]
            simp only [f_X10_replica, o10, o00, bh, isO, inR, ck_true, bind_some9, Nat.reduceLeDiff, Nat.reduceEqDiff, and_self, and_true, true_and, false_and, and_false, not_false_eq_true, not_true_eq_false, or_self, or_false, false_or, if_true, if_false, reduceIte, zR_pE, zT_pE, zL_pE, zn_pE, zE_pE, zI_pE, zQ_pE, zJ_pE, zR_pI, zT_pI, zL_pI, zn_pI, zE_pI, zI_pI, zQ_pI, zJ_pI, zR_pR, zT_pR, zL_pR, zn_pR, zE_pR, zI_pR, zQ_pR, zJ_pR, zR_pJ, zT_pJ, zL_pJ, zn_pJ, zE_pJ, zI_pJ, zQ_pJ, zJ_pJ, o8, ef, ne, eq_false q0, eq_false q1, eq_false q2, eq_false q3]
theorem dkb_show {d : Dk} (hm : dkM d) (hT : dkT d < 16) {p : Nat} (hp : p < dkSz d) : dkb d p &&& 255 = dkBt d p := by
  unfold dkb dkRd dkBt
  refine cB_show ?_ (Nat.mod_lt _ (by decide))
  by_cases c : p / 16 < (dkL d).length
  · rw [if_pos c]
    refine hm.1 _ ?_
    rw [List.getD_eq_getElem?_getD, List.getElem?_eq_getElem c]
    exact List.getElem_mem c
  · rw [if_neg c]
    refine hm.2 ?_
    unfold dkSz at hp
    omega
theorem c_disk (hK : K ≤ 2000) (S : WdS vs K W) (R : CW vs now h own u v W) (s r b i : Int32) : f_X10_disk 8 s r b i h = some (wdDisk W s r b i, h) := by
  have o8 := R.2.1.1.1
  have ef := c_findR hK S R s r
  unfold wdDisk
  cases e : rplc W s r with
  | none =>
    rw [e] at ef
    have ef : f_X10_findReplica 8 s r h = some (0, h) := ef
    simp only [f_X10_disk, o10, o00, bh, isO, inR, ck_true, bind_some9, Nat.reduceLeDiff, Nat.reduceEqDiff, and_self, and_true, true_and, false_and, and_false, not_false_eq_true, not_true_eq_false, or_self, or_false, false_or, if_true, if_false, reduceIte, zR_pE, zT_pE, zL_pE, zn_pE, zE_pE, zI_pE, zQ_pE, zJ_pE, zR_pI, zT_pI, zL_pI, zn_pI, zE_pI, zI_pI, zQ_pI, zJ_pI, zR_pR, zT_pR, zL_pR, zn_pR, zE_pR, zI_pR, zQ_pR, zJ_pR, zR_pJ, zT_pJ, zL_pJ, zn_pJ, zE_pJ, zI_pJ, zQ_pJ, zJ_pJ, o8, ef]
  | some sr =>
    obtain ⟨s1, r1⟩ := sr
    rw [e] at ef
    have ef : f_X10_findReplica 8 s r h = some (shA s1 + (8 + 2 * r1), h) := ef
    obtain ⟨e1, e2, h4, hz, h5, k⟩ := rplc_at hK S R e
    obtain ⟨C, hS, hY⟩ := S s1 h4
    have len := ((cm_ok hS.1 hY hK).2.2.2.1 r1 hz).2
    obtain ⟨oD, d0, d2, d3, d4, dT, dM, B, y⟩ := c_dk k h5
    have ne := adR_ne s1 r1
    simp only []
    by_cases c0 : b < 0
    · rw [if_pos (Or.inl c0)]
      simp only [f_X10_disk, o10, o00, bh, isO, inR, ck_true, bind_some9, Nat.reduceLeDiff, Nat.reduceEqDiff, and_self, and_true, true_and, false_and, and_false, not_false_eq_true, not_true_eq_false, or_self, or_false, false_or, if_true, if_false, reduceIte, zR_pE, zT_pE, zL_pE, zn_pE, zE_pE, zI_pE, zQ_pE, zJ_pE, zR_pI, zT_pI, zL_pI, zn_pI, zE_pI, zI_pI, zQ_pI, zJ_pI, zR_pR, zT_pR, zL_pR, zn_pR, zE_pR, zI_pR, zQ_pR, zJ_pR, zR_pJ, zT_pJ, zL_pJ, zn_pJ, zE_pJ, zI_pJ, zQ_pJ, zJ_pJ, o8, ef, ne, c0]
    · by_cases c2 : i < 0
      · rw [if_pos (Or.inr (Or.inr (Or.inl c2)))]
        simp only [f_X10_disk, o10, o00, bh, isO, inR, ck_true, bind_some9, Nat.reduceLeDiff, Nat.reduceEqDiff, and_self, and_true, true_and, false_and, and_false, not_false_eq_true, not_true_eq_false, or_self, or_false, false_or, if_true, if_false, reduceIte, zR_pE, zT_pE, zL_pE, zn_pE, zE_pE, zI_pE, zQ_pE, zJ_pE, zR_pI, zT_pI, zL_pI, zn_pI, zE_pI, zI_pI, zQ_pI, zJ_pI, zR_pR, zT_pR, zL_pR, zn_pR, zE_pR, zI_pR, zQ_pR, zJ_pR, zR_pJ, zT_pJ, zL_pJ, zn_pJ, zE_pJ, zI_pJ, zQ_pJ, zJ_pJ, o8, ef, ne, c0, c2]
      · by_cases c3 : (512 : Int32) ≤ i
        · rw [if_pos (Or.inr (Or.inr (Or.inr c3)))]
          have c3 : (i < (512 : Int32)) = False := eq_false (Int32.not_lt.mpr c3)
          simp only [f_X10_disk, o10, o00, bh, isO, inR, ck_true, bind_some9, Nat.reduceLeDiff, Nat.reduceEqDiff, and_self, and_true, true_and, false_and, and_false, not_false_eq_true, not_true_eq_false, or_self, or_false, false_or, if_true, if_false, reduceIte, zR_pE, zT_pE, zL_pE, zn_pE, zE_pE, zI_pE, zQ_pE, zJ_pE, zR_pI, zT_pI, zL_pI, zn_pI, zE_pI, zI_pI, zQ_pI, zJ_pI, zR_pR, zT_pR, zL_pR, zn_pR, zE_pR, zI_pR, zQ_pR, zJ_pR, zR_pJ, zT_pJ, zL_pJ, zn_pJ, zE_pJ, zI_pJ, zQ_pJ, zJ_pJ, o8, ef, ne, c0, c2, c3]
        · have c3e : (i < (512 : Int32)) = True := eq_true (Int32.not_le.mp c3)
          obtain ⟨a, ha, ea⟩ := zi_of c0
          obtain ⟨j, hj, ej⟩ := zi_of c2
          have na : (nI a).toNatClampNeg = a := zi_nat ha
          have nj : (nI j).toNatClampNeg = j := zi_nat hj
          have sz : dkSz (shD (W s1) r1) ≤ 62736 := by unfold dkSz; omega
          have j5 : j < 512 := by
            rw [ej] at c3
            by_cases z : j < 512
            · exact z
            · exact absurd ((zi_le (a := 512) (b := j) (by omega) hj).mpr (by omega)) c3
          have x8 : (nI (dkSz (shD (W s1) r1)) + (512 : Int32) - 1) / (512 : Int32) = nI ((dkSz (shD (W s1) r1) + 511) / 512) := by
            rw [show (512 : Int32) = nI 512 from rfl, zi_add, show (1 : Int32) = nI 1 from rfl, zi_sub (by omega), zi_div (by omega) (by omega) (by omega)]
            rfl
          rw [ea] at c0 ⊢
          rw [ej] at c2 c3e ⊢
          rw [na, nj]
          by_cases ca : (dkSz (shD (W s1) r1) + 511) / 512 ≤ a
          · have cae : (nI ((dkSz (shD (W s1) r1) + 511) / 512) ≤ nI a) = True := eq_true ((zi_le (by omega) ha).mpr ca)
            have : (if nI a < 0 ∨ (256 : Int32) ≤ nI a ∨ nI j < 0 ∨ (512 : Int32) ≤ nI j then (-1 : Int32) else if 512 * a < dkSz (shD (W s1) r1) then (if 512 * a + j < dkSz (shD (W s1) r1) then dkBt (shD (W s1) r1) (512 * a + j) else 0) else -1) = -1 := by
              split
              · rfl
              · rw [if_neg (by omega)]
            rw [this]
            simp only [f_X10_disk, o10, o00, bh, isO, inR, ck_true, bind_some9, Nat.reduceLeDiff, Nat.reduceEqDiff, and_self, and_true, true_and, false_and, and_false, not_false_eq_true, not_true_eq_false, or_self, or_false, false_or, if_true, if_false, reduceIte, zR_pE, zT_pE, zL_pE, zn_pE, zE_pE, zI_pE, zQ_pE, zJ_pE, zR_pI, zT_pI, zL_pI, zn_pI, zE_pI, zI_pI, zQ_pI, zJ_pI, zR_pR, zT_pR, zL_pR, zn_pR, zE_pR, zI_pR, zQ_pR, zJ_pR, zR_pJ, zT_pJ, zL_pJ, zn_pJ, zE_pJ, zI_pJ, zQ_pJ, zJ_pJ, o8, ef, ne, c0, c2, c3e, oD, d2, x8, cae]
          · have cae : (nI ((dkSz (shD (W s1) r1) + 511) / 512) ≤ nI a) = False := eq_false (zi_le0 (by omega) ha ca)
            have : (if nI a < 0 ∨ (256 : Int32) ≤ nI a ∨ nI j < 0 ∨ (512 : Int32) ≤ nI j then (-1 : Int32) else if 512 * a < dkSz (shD (W s1) r1) then (if 512 * a + j < dkSz (shD (W s1) r1) then dkBt (shD (W s1) r1) (512 * a + j) else 0) else -1) = if 512 * a + j < dkSz (shD (W s1) r1) then dkBt (shD (W s1) r1) (512 * a + j) else 0 := by
              rw [if_neg (by
                rintro (z | z | z | z)
                · exact c0 z
                · exact absurd ((zi_le (a := 256) (by omega) ha).mp z) (by omega)
                · exact c2 z
                · exact absurd ((zi_le (a := 512) (by omega) hj).mp z) (by omega)), if_pos (by omega)]
            rw [this]
            have ml : nI a * (512 : Int32) = nI (512 * a) := by rw [show (512 : Int32) = nI 512 from rfl, zi_mul, Nat.mul_comm]
            have ad : nI (512 * a) + nI j = nI (512 * a + j) := zi_add _ _
            by_cases cp : 512 * a + j < dkSz (shD (W s1) r1)
            · rw [if_pos cp]
              have by1 := c_byteAt y cp (by omega)
              rw [dkb_show dM dT cp] at by1
              simp only [f_X10_disk, o10, o00, bh, isO, inR, ck_true, bind_some9, Nat.reduceLeDiff, Nat.reduceEqDiff, and_self, and_true, true_and, false_and, and_false, not_false_eq_true, not_true_eq_false, or_self, or_false, false_or, if_true, if_false, reduceIte, zR_pE, zT_pE, zL_pE, zn_pE, zE_pE, zI_pE, zQ_pE, zJ_pE, zR_pI, zT_pI, zL_pI, zn_pI, zE_pI, zI_pI, zQ_pI, zJ_pI, zR_pR, zT_pR, zL_pR, zn_pR, zE_pR, zI_pR, zQ_pR, zJ_pR, zR_pJ, zT_pJ, zL_pJ, zn_pJ, zE_pJ, zI_pJ, zQ_pJ, zJ_pJ, o8, ef, ne, c0, c2, c3e, oD, d2, x8, cae, ml, ad, by1]
            · rw [if_neg cp]
              have gp : ¬ nI (512 * a + j) < 0 := zi_neg (by omega)
              have cpe : (nI (dkSz (shD (W s1) r1)) ≤ nI (512 * a + j)) = True := eq_true ((zi_le (by omega) (by omega)).mpr (by omega))
              simp only [f_X10_disk, f_X5_byteAt, o10, o00, bh, isO, inR, ck_true, bind_some9, Nat.reduceLeDiff, Nat.reduceEqDiff, and_self, and_true, true_and, false_and, and_false, not_false_eq_true, not_true_eq_false, or_self, or_false, false_or, if_true, if_false, reduceIte, zR_pE, zT_pE, zL_pE, zn_pE, zE_pE, zI_pE, zQ_pE, zJ_pE, zR_pI, zT_pI, zL_pI, zn_pI, zE_pI, zI_pI, zQ_pI, zJ_pI, zR_pR, zT_pR, zL_pR, zn_pR, zE_pR, zI_pR, zQ_pR, zJ_pR, zR_pJ, zT_pJ, zL_pJ, zn_pJ, zE_pJ, zI_pJ, zQ_pJ, zJ_pJ, o8, ef, ne, c0, c2, c3e, oD, d2, x8, cae, ml, ad, gp, cpe]
theorem c_fuse (hK : K ≤ 2000) (S : WdS vs K W) (R : CW vs now h own u v W) (s r b : Int32) : aCB vs now h own u v (wdFuse W s r b) (f_X10_fuse 8 s r b h) := by
  have o8 := R.2.1.1.1
  have ef := c_findR hK S R s r
  unfold wdFuse
  cases e : rplc W s r with
  | none =>
    rw [e] at ef
    have ef : f_X10_findReplica 8 s r h = some (0, h) := ef
    simp only [f_X10_fuse, o10, o00, bh, isO, inR, ck_true, bind_some9, Nat.reduceLeDiff, Nat.reduceEqDiff, and_self, and_true, true_and, false_and, and_false, not_false_eq_true, not_true_eq_false, or_self, or_false, false_or, if_true, if_false, reduceIte, zR_pE, zT_pE, zL_pE, zn_pE, zE_pE, zI_pE, zQ_pE, zJ_pE, zR_pI, zT_pI, zL_pI, zn_pI, zE_pI, zI_pI, zQ_pI, zJ_pI, zR_pR, zT_pR, zL_pR, zn_pR, zE_pR, zI_pR, zQ_pR, zJ_pR, zR_pJ, zT_pJ, zL_pJ, zn_pJ, zE_pJ, zI_pJ, zQ_pJ, zJ_pJ, o8, ef]
    exact aCB.id R false
  | some sr =>
    obtain ⟨s1, r1⟩ := sr
    rw [e] at ef
    have ef : f_X10_findReplica 8 s r h = some (shA s1 + (8 + 2 * r1), h) := ef
    obtain ⟨e1, e2, h4, hz, h5, k⟩ := rplc_at hK S R e
    obtain ⟨oD, d0, d2, d3, d4, dT, dM, B, y⟩ := c_dk k h5
    have ne := adR_ne s1 r1
    simp only []
    cases cu : dkU (shD (W s1) r1) with
    | false =>
      rw [cu, if_neg (fun z => Bool.noConfusion z)] at d3
      rw [if_pos (Or.inl rfl)]
      simp only [f_X10_fuse, o10, o00, bh, isO, inR, ck_true, bind_some9, Nat.reduceLeDiff, Nat.reduceEqDiff, and_self, and_true, true_and, false_and, and_false, not_false_eq_true, not_true_eq_false, or_self, or_false, false_or, if_true, if_false, reduceIte, zR_pE, zT_pE, zL_pE, zn_pE, zE_pE, zI_pE, zQ_pE, zJ_pE, zR_pI, zT_pI, zL_pI, zn_pI, zE_pI, zI_pI, zQ_pI, zJ_pI, zR_pR, zT_pR, zL_pR, zn_pR, zE_pR, zI_pR, zQ_pR, zJ_pR, zR_pJ, zT_pJ, zL_pJ, zn_pJ, zE_pJ, zI_pJ, zQ_pJ, zJ_pJ, o8, ef, ne, oD, d3]
      exact aCB.id R false
    | true =>
      rw [cu, if_pos rfl] at d3
      have k1 : ((1 : Int32) = 0) = False := eq_false (by decide)
      by_cases c0 : b < 0
      · rw [if_pos (Or.inr (Or.inl c0))]
        simp only [f_X10_fuse, o10, o00, bh, isO, inR, ck_true, bind_some9, Nat.reduceLeDiff, Nat.reduceEqDiff, and_self, and_true, true_and, false_and, and_false, not_false_eq_true, not_true_eq_false, or_self, or_false, false_or, if_true, if_false, reduceIte, zR_pE, zT_pE, zL_pE, zn_pE, zE_pE, zI_pE, zQ_pE, zJ_pE, zR_pI, zT_pI, zL_pI, zn_pI, zE_pI, zI_pI, zQ_pI, zJ_pI, zR_pR, zT_pR, zL_pR, zn_pR, zE_pR, zI_pR, zQ_pR, zJ_pR, zR_pJ, zT_pJ, zL_pJ, zn_pJ, zE_pJ, zI_pJ, zQ_pJ, zJ_pJ, o8, ef, ne, oD, d3, k1, c0]
        exact aCB.id R false
      · by_cases c1 : (100000 : Int32) < b
        · rw [if_pos (Or.inr (Or.inr c1))]
          have c1 : (b ≤ (100000 : Int32)) = False := eq_false (Int32.not_le.mpr c1)
          simp only [f_X10_fuse, o10, o00, bh, isO, inR, ck_true, bind_some9, Nat.reduceLeDiff, Nat.reduceEqDiff, and_self, and_true, true_and, false_and, and_false, not_false_eq_true, not_true_eq_false, or_self, or_false, false_or, if_true, if_false, reduceIte, zR_pE, zT_pE, zL_pE, zn_pE, zE_pE, zI_pE, zQ_pE, zJ_pE, zR_pI, zT_pI, zL_pI, zn_pI, zE_pI, zI_pI, zQ_pI, zJ_pI, zR_pR, zT_pR, zL_pR, zn_pR, zE_pR, zI_pR, zQ_pR, zJ_pR, zR_pJ, zT_pJ, zL_pJ, zn_pJ, zE_pJ, zI_pJ, zQ_pJ, zJ_pJ, o8, ef, ne, oD, d3, k1, c0, c1]
          exact aCB.id R false
        · rw [if_neg (by
            rintro (z | z | z)
            · cases z
            · exact c0 z
            · exact c1 z)]
          have c1 : (b ≤ (100000 : Int32)) = True := eq_true (Int32.not_lt.mp c1)
          obtain ⟨k1', a1⟩ := k.dk (d := (dkL (shD (W s1) r1), true, b, dkT (shD (W s1) r1), dkR (shD (W s1) r1))) (h1 := pI h 604 (shA s1 + (8 + 2 * r1)) b) R.1.1 h4 h5 (cf_pI ⟨rfl, by omega, by omega⟩) rfl (by rw [zI_pI, if_neg (by omega)]; exact d2) (by rw [zI_pI, if_neg (by omega)]; exact d3) (by rw [zI_pI, if_pos ⟨rfl, rfl⟩]) (Nat.le_refl _) (fun p hp => rfl) dT dM
          obtain ⟨R2, A2⟩ := R.one h4 k1' a1
          refine ⟨_, own, _, _, ?_, R2, A2⟩
          simp only [f_X10_fuse, o10, o00, bh, isO, inR, ck_true, bind_some9, Nat.reduceLeDiff, Nat.reduceEqDiff, and_self, and_true, true_and, false_and, and_false, not_false_eq_true, not_true_eq_false, or_self, or_false, false_or, if_true, if_false, reduceIte, zR_pE, zT_pE, zL_pE, zn_pE, zE_pE, zI_pE, zQ_pE, zJ_pE, zR_pI, zT_pI, zL_pI, zn_pI, zE_pI, zI_pI, zQ_pI, zJ_pI, zR_pR, zT_pR, zL_pR, zn_pR, zE_pR, zI_pR, zQ_pR, zJ_pR, zR_pJ, zT_pJ, zL_pJ, zn_pJ, zE_pJ, zI_pJ, zQ_pJ, zJ_pJ, o8, ef, ne, oD, d3, k1, c0, c1]
end Calls
/-! CALLS OF THE CLASS: power, replicas -/
theorem c_lower {h : Hp} {own : Nat → Nat} {s v r : Nat} {u : Nat → Nat} {q : Shd} (k : shC h own s u v q) (w : owS own) (hz : 672 ≤ zn h) (hs : s < 4) (hr : r < 5) (hZ : shZ q ≤ 5) (hL : shL q = -1 ∨ ∃ l, l < shZ q ∧ shL q = nI l) : ∃ h1 own1 u1 v1, f_X6_lower (shA s) (shA s + (8 + 2 * r)) h = some h1 ∧ shC h1 own1 s u1 v1 (shLower q r) ∧ acC s h own u v h1 own1 u1 v1 := by
  obtain ⟨oD, d0, d2, d3, d4, dT, dM, -⟩ := c_dk k hr
  have nA : shA s ≠ shA s + (8 + 2 * r) := by omega
  have f : cf (fun a j => a = shA s + (8 + 2 * r) ∧ 602 ≤ j ∧ j ≤ 604) h (pI (pI h 603 (shA s + (8 + 2 * r)) 0) 604 (shA s + (8 + 2 * r)) (-1)) := (cf_pI (S := fun a j => a = shA s + (8 + 2 * r) ∧ 602 ≤ j ∧ j ≤ 604) ⟨rfl, by omega, by omega⟩).tr (cf_pI ⟨rfl, by omega, by omega⟩)
  obtain ⟨k1, a1⟩ := k.dk (d := (dkL (shD q r), false, -1, dkT (shD q r), dkR (shD q r))) w hs hr f rfl (by rw [zI_pI, if_neg (by omega), zI_pI, if_neg (by omega)]; exact d2) (by rw [zI_pI, if_neg (by omega), zI_pI, if_pos ⟨rfl, rfl⟩]; rfl) (by rw [zI_pI, if_pos ⟨rfl, rfl⟩]) (Nat.le_refl _) (fun p hp => rfl) dT dM
  have e600 : zI (pI (pI h 603 (shA s + (8 + 2 * r)) 0) 604 (shA s + (8 + 2 * r)) (-1)) 600 (shA s + (8 + 2 * r)) = nI r := by rw [zI_pI, if_neg (by omega), zI_pI, if_neg (by omega)]; exact d0
  generalize hg1 : pI (pI h 603 (shA s + (8 + 2 * r)) 0) 604 (shA s + (8 + 2 * r)) (-1) = g1 at *
  have oA1 := k1.1.1.1
  have e8 : zI g1 708 (shA s) = shL q := k1.2.1.2.1
  have eL : shLower q r = if shL q = nI r ∨ shMost (shSetD q (upf (shD q) r (dkL (shD q r), false, -1, dkT (shD q r), dkR (shD q r)))) = false then shLose (shSetD q (upf (shD q) r (dkL (shD q r), false, -1, dkT (shD q r), dkR (shD q r)))) else shSetD q (upf (shD q) r (dkL (shD q r), false, -1, dkT (shD q r), dkR (shD q r))) := rfl
  rw [eL]
  have mo := c_most k1 hZ
  generalize hq1 : shSetD q (upf (shD q) r (dkL (shD q r), false, -1, dkT (shD q r), dkR (shD q r))) = q1 at *
  obtain ⟨h2, x1, x2, x3⟩ := c_lose k1 w hs
  by_cases c : shL q = nI r
  · rw [if_pos (Or.inl c)]
    refine ⟨h2, own, u, v, ?_, x2, a1.tr x3⟩
    rw [c] at e8
    simp only [f_X6_lower, o10, o00, bh, isO, inR, ck_true, bind_some9, Nat.reduceLeDiff, Nat.reduceEqDiff, and_self, and_true, true_and, false_and, and_false, not_false_eq_true, not_true_eq_false, or_self, or_false, false_or, if_true, if_false, reduceIte, zR_pE, zT_pE, zL_pE, zn_pE, zE_pE, zI_pE, zQ_pE, zJ_pE, zR_pI, zT_pI, zL_pI, zn_pI, zE_pI, zI_pI, zQ_pI, zJ_pI, zR_pR, zT_pR, zL_pR, zn_pR, zE_pR, zI_pR, zQ_pR, zJ_pR, zR_pJ, zT_pJ, zL_pJ, zn_pJ, zE_pJ, zI_pJ, zQ_pJ, zJ_pJ, oD, hg1, oA1, e600, e8, x1]
  · have ce : (nI r = shL q) = False := eq_false (fun z => c z.symm)
    cases cm : shMost q1 with
    | false =>
      rw [cm, if_neg (fun z => Bool.noConfusion z)] at mo
      rw [if_pos (Or.inr rfl)]
      refine ⟨h2, own, u, v, ?_, x2, a1.tr x3⟩
      simp only [f_X6_lower, o10, o00, bh, isO, inR, ck_true, bind_some9, Nat.reduceLeDiff, Nat.reduceEqDiff, and_self, and_true, true_and, false_and, and_false, not_false_eq_true, not_true_eq_false, or_self, or_false, false_or, if_true, if_false, reduceIte, zR_pE, zT_pE, zL_pE, zn_pE, zE_pE, zI_pE, zQ_pE, zJ_pE, zR_pI, zT_pI, zL_pI, zn_pI, zE_pI, zI_pI, zQ_pI, zJ_pI, zR_pR, zT_pR, zL_pR, zn_pR, zE_pR, zI_pR, zQ_pR, zJ_pR, zR_pJ, zT_pJ, zL_pJ, zn_pJ, zE_pJ, zI_pJ, zQ_pJ, zJ_pJ, oD, hg1, oA1, e600, e8, ce, mo, x1]
    | true =>
      rw [cm, if_pos rfl] at mo
      rw [if_neg (by
        rintro (z | z)
        · exact c z
        · cases z)]
      refine ⟨g1, own, u, v, ?_, k1, a1⟩
      simp only [f_X6_lower, o10, o00, bh, isO, inR, ck_true, bind_some9, Nat.reduceLeDiff, Nat.reduceEqDiff, and_self, and_true, true_and, false_and, and_false, not_false_eq_true, not_true_eq_false, or_self, or_false, false_or, if_true, if_false, reduceIte, zR_pE, zT_pE, zL_pE, zn_pE, zE_pE, zI_pE, zQ_pE, zJ_pE, zR_pI, zT_pI, zL_pI, zn_pI, zE_pI, zI_pI, zQ_pI, zJ_pI, zR_pR, zT_pR, zL_pR, zn_pR, zE_pR, zI_pR, zQ_pR, zJ_pR, zR_pJ, zT_pJ, zL_pJ, zn_pJ, zE_pJ, zI_pJ, zQ_pJ, zJ_pJ, oD, hg1, oA1, e600, e8, ce, mo, show ((1 : Int32) = 0) = False from eq_false (by decide)]
theorem c_raise {vs : Nat → List Prg} {K : Nat} {h : Hp} {own : Nat → Nat} {s v r : Nat} {u : Nat → Nat} {q : Shd} {C : List Rec} (hK : K ≤ 2000) (k : shC h own s u v q) (w : owS own) (hz : 672 ≤ zn h) (hs : s < 4) (hr : r < shZ q) (hI : ShI vs q C) (hY : shY q ≤ lgW C + K) (hd : dkU (shD q r) = false) : ∃ h1 own1 u1 v1, f_X6_raise (shA s) (shA s + (8 + 2 * r)) h = some h1 ∧ shC h1 own1 s u1 v1 (shRaise q r) ∧ acC s h own u v h1 own1 u1 v1 := by
  obtain ⟨c1, c2, c3, c4, c5, c6⟩ := cm_ok hI hY hK
  have hr5 : r < 5 := by omega
  obtain ⟨oD, d0, d2, d3, d4, dT, dM, -⟩ := c_dk k hr5
  have len := (c4 r hr).2
  have f1 : dkF (shD q r) = -1 := (hI.2.2.1.2.1 r hr).2.2 hd
  have dv : nI (dkSz (shD q r)) / (16 : Int32) = nI (dkL (shD q r)).length := by
    have : nI (dkSz (shD q r)) / nI 16 = nI (dkSz (shD q r) / 16) := zi_div (by unfold dkSz; omega) (by omega) (by omega)
    rw [show (16 : Int32) = nI 16 from rfl, this]
    congr 1
    unfold dkSz
    omega
  have md : nI (dkSz (shD q r)) - nI (dkL (shD q r)).length * (16 : Int32) = nI (dkT (shD q r)) := by
    rw [show (16 : Int32) = nI 16 from rfl, zi_mul, zi_sub (by unfold dkSz; omega)]
    congr 1
    unfold dkSz
    omega
  have sb : nI (dkSz (shD q r)) - nI (dkT (shD q r)) = nI (16 * (dkL (shD q r)).length) := by
    rw [zi_sub (by unfold dkSz; omega)]
    congr 1
    unfold dkSz
    omega
  have f : cf (fun a j => a = shA s + (8 + 2 * r) ∧ 602 ≤ j ∧ j ≤ 604) h (pI (pI h 603 (shA s + (8 + 2 * r)) 1) 602 (shA s + (8 + 2 * r)) (nI (16 * (dkL (shD q r)).length))) := (cf_pI (S := fun a j => a = shA s + (8 + 2 * r) ∧ 602 ≤ j ∧ j ≤ 604) ⟨rfl, by omega, by omega⟩).tr (cf_pI ⟨rfl, by omega, by omega⟩)
  obtain ⟨k1, a1⟩ := k.dk (d := (dkL (shD q r), true, dkF (shD q r), 0, dkR (shD q r))) w hs hr5 f rfl (by rw [zI_pI, if_pos ⟨rfl, rfl⟩]; rfl) (by rw [zI_pI, if_neg (by omega), zI_pI, if_pos ⟨rfl, rfl⟩]; rfl) (by rw [zI_pI, if_neg (by omega), zI_pI, if_neg (by omega)]; exact d4) (by unfold dkSz; show 16 * (dkL (shD q r)).length + 0 ≤ _; omega) (fun p hp => rfl) (by show 0 < 16; omega) ⟨dM.1, fun z => absurd rfl z⟩
  have e602 : zI (pI h 603 (shA s + (8 + 2 * r)) 1) 602 (shA s + (8 + 2 * r)) = nI (dkSz (shD q r)) := by rw [zI_pI, if_neg (by omega)]; exact d2
  generalize hg0 : pI h 603 (shA s + (8 + 2 * r)) 1 = g0 at *
  generalize hg1 : pI g0 602 (shA s + (8 + 2 * r)) (nI (16 * (dkL (shD q r)).length)) = g1 at *
  have oA1 := k1.1.1.1
  have wk := c_works k1
  have eR : shRaise q r = shSetD q (upf (shD q) r (if shWorks q then dkAlike (dkL (shD q r), true, dkF (shD q r), 0, dkR (shD q r)) (shD q (shL q).toNatClampNeg) else (dkL (shD q r), true, dkF (shD q r), 0, dkR (shD q r)))) := rfl
  rw [eR]
  by_cases cl : shL q = -1
  · have hw : shWorks q = false := by unfold shWorks; rw [cl]; rfl
    rw [hw, if_neg (fun z => Bool.noConfusion z)]
    rw [if_pos (show shL (shSetD q (upf (shD q) r (dkL (shD q r), true, dkF (shD q r), 0, dkR (shD q r)))) = -1 from cl)] at wk
    refine ⟨g1, own, u, v, ?_, k1, a1⟩
    simp only [f_X6_raise, o10, o00, bh, isO, inR, ck_true, bind_some9, Nat.reduceLeDiff, Nat.reduceEqDiff, and_self, and_true, true_and, false_and, and_false, not_false_eq_true, not_true_eq_false, or_self, or_false, false_or, if_true, if_false, reduceIte, zR_pE, zT_pE, zL_pE, zn_pE, zE_pE, zI_pE, zQ_pE, zJ_pE, zR_pI, zT_pI, zL_pI, zn_pI, zE_pI, zI_pI, zQ_pI, zJ_pI, zR_pR, zT_pR, zL_pR, zn_pR, zE_pR, zI_pR, zQ_pR, zJ_pR, zR_pJ, zT_pJ, zL_pJ, zn_pJ, zE_pJ, zI_pJ, zQ_pJ, zJ_pJ, oD, hg0, e602, dv, md, sb, hg1, oA1, wk]
  · rw [(works_iff q).mpr cl, if_pos rfl]
    rw [if_neg (show ¬ shL (shSetD q (upf (shD q) r (dkL (shD q r), true, dkF (shD q r), 0, dkR (shD q r)))) = -1 from cl)] at wk
    obtain ⟨l, hl, el⟩ := c2.resolve_left cl
    have nl : (nI l).toNatClampNeg = l := zi_nat (by omega)
    obtain ⟨l2, wv, hC9⟩ := hI.w cl
    have ll : l2 = l := by
      have := wv.2.1
      rw [el] at this
      have z := wv.1
      exact ((zi_eq (by omega) (by omega)).mp this).symm
    rw [ll] at wv
    have hrl : r ≠ l := fun z => by rw [z, wv.2.2.1] at hd; cases hd
    have atr : shD (shSetD q (upf (shD q) r (dkL (shD q r), true, dkF (shD q r), 0, dkR (shD q r)))) r = (dkL (shD q r), true, dkF (shD q r), 0, dkR (shD q r)) := if_pos rfl
    have atl : shD (shSetD q (upf (shD q) r (dkL (shD q r), true, dkF (shD q r), 0, dkR (shD q r)))) l = shD q l := if_neg (fun z => hrl z.symm)
    have okl := (c4 l hl).1 wv.2.2.1
    obtain ⟨h2, own2, ur, x1, x2, x3⟩ := c_alike k1 w hs hr5 (by omega : l < 5) hrl (by rw [atr]; exact fun _ => ⟨rfl, Or.inl f1⟩) (by rw [atr]) (by rw [atl]; exact okl.1) (by rw [atr]; show (dkL (shD q r)).length ≤ 3921; omega) (by rw [atl]; have := (c4 l hl).2; omega)
    rw [atr, atl] at x2
    have x2 : shC h2 own2 s (upf u r ur) v (shSetD q (upf (upf (shD q) r (dkL (shD q r), true, dkF (shD q r), 0, dkR (shD q r))) r (dkAlike (dkL (shD q r), true, dkF (shD q r), 0, dkR (shD q r)) (shD q l)))) := x2
    rw [upf_upf] at x2
    rw [el, nl]
    refine ⟨h2, own2, _, v, ?_, x2, a1.tr x3⟩
    obtain ⟨⟨⟨-, -, -, -, r703, -⟩, ⟨o1, l1, q1⟩, -⟩, ⟨-, e8, -⟩, -⟩ := id k1
    have e8 : zI g1 708 (shA s) = nI l := e8.trans el
    have gl : ¬ nI l < 0 := zi_neg (by omega)
    have l5 : ¬ 5 ≤ l := by omega
    have ql := q1 l (by omega)
    simp only [f_X6_raise, o10, o00, bh, isO, inR, ck_true, bind_some9, Nat.reduceLeDiff, Nat.reduceEqDiff, and_self, and_true, true_and, false_and, and_false, not_false_eq_true, not_true_eq_false, or_self, or_false, false_or, if_true, if_false, reduceIte, zR_pE, zT_pE, zL_pE, zn_pE, zE_pE, zI_pE, zQ_pE, zJ_pE, zR_pI, zT_pI, zL_pI, zn_pI, zE_pI, zI_pI, zQ_pI, zJ_pI, zR_pR, zT_pR, zL_pR, zn_pR, zE_pR, zI_pR, zQ_pR, zJ_pR, zR_pJ, zT_pJ, zL_pJ, zn_pJ, zE_pJ, zI_pJ, zQ_pJ, zJ_pJ, oD, hg0, e602, dv, md, sb, hg1, oA1, wk, r703, o1, l1, e8, nl, gl, l5, ql, x1]
/-- disks made empty -/
def rnF (D : Nat → Dk) (i : Nat) : Nat → Dk := fun x => if x < i then ([], true, -1, 0, dkR (D x)) else D x
theorem rnF_succ (D : Nat → Dk) (i : Nat) : upf (rnF D i) i ([], true, -1, 0, dkR (D i)) = rnF D (i + 1) := by
  funext n
  unfold upf rnF
  by_cases c : n = i
  · rw [if_pos c, if_pos (by omega), c]
  · rw [if_neg c]
    by_cases c2 : n < i
    · rw [if_pos c2, if_pos (by omega)]
    · rw [if_neg c2, if_neg (by omega)]
theorem c_renew43 {own : Nat → Nat} {s v z : Nat} {u : Nat → Nat} {q : Shd} (w : owS own) (hs : s < 4) (hN : shN q ≤ 16) : ∀ (m i fuel : Nat) (h : Hp), shC h own s u v (shSetD q (rnF (shD q) i)) → i + m = 5 → m < fuel → ∃ h1, f_X6_renew_43 fuel (shA s) (nI z) (nI i) h = some (1, h1) ∧ shC h1 own s u v (z, 0, shT q, rnF (shD q) 5, shN q, shF q, shO q, shQ q) ∧ acC s h own u v h1 own u v
  | m, i, 0, h, _, _, hf => absurd hf (Nat.not_lt_zero _)
  | 0, i, fuel + 1, h, k, hi, hf => by
    have ei : i = 5 := by omega
    rw [ei] at k ⊢
    have c : (5 : Int32) ≤ nI 5 := by decide
    have oA := k.1.1.1
    obtain ⟨e7, e8, e9, e10, e11⟩ := k.2.1
    have f : cf (fun a j => a = shA s ∧ 707 ≤ j ∧ j ≤ 711) h (pI (pI h 707 (shA s) (nI z)) 708 (shA s) 0) := (cf_pI (S := fun a j => a = shA s ∧ 707 ≤ j ∧ j ≤ 711) ⟨rfl, by omega, by omega⟩).tr (cf_pI ⟨rfl, by omega, by omega⟩)
    have ownA : own (shA s) = 10 * s + 8 := ow_at (o := 0) w hs (by omega) (by omega) (by omega)
    refine ⟨_, ?_, k.sc w hs f ⟨?_, ?_, ?_, ?_, e11⟩ rfl rfl rfl (Nat.le_refl _), acC.nz (f.mono (fun p j _ z => by rw [z.1, ownA]; omega)) rfl⟩
    · simp only [f_X6_renew_43, o10, o00, bh, isO, inR, ck_true, bind_some9, Nat.reduceLeDiff, Nat.reduceEqDiff, and_self, and_true, true_and, false_and, and_false, not_false_eq_true, not_true_eq_false, or_self, or_false, false_or, if_true, if_false, reduceIte, zR_pE, zT_pE, zL_pE, zn_pE, zE_pE, zI_pE, zQ_pE, zJ_pE, zR_pI, zT_pI, zL_pI, zn_pI, zE_pI, zI_pI, zQ_pI, zJ_pI, zR_pR, zT_pR, zL_pR, zn_pR, zE_pR, zI_pR, zQ_pR, zJ_pR, zR_pJ, zT_pJ, zL_pJ, zn_pJ, zE_pJ, zI_pJ, zQ_pJ, zJ_pJ, c, oA]
    · rw [zI_pI, if_neg (by omega), zI_pI, if_pos ⟨rfl, rfl⟩]
    · rw [zI_pI, if_pos ⟨rfl, rfl⟩]
    · rw [zI_pI, if_neg (by omega), zI_pI, if_neg (by omega)]; exact e9
    · rw [zI_pI, if_neg (by omega), zI_pI, if_neg (by omega)]; exact e10
  | m + 1, i, fuel + 1, h, k, hi, hf => by
    have hi5 : i < 5 := by omega
    have c : ¬ (5 : Int32) ≤ nI i := zi_le0 (a := 5) (by omega) (by omega) (by omega)
    obtain ⟨oD, d0, d2, d3, d4, dT, dM, -⟩ := c_dk k hi5
    obtain ⟨⟨⟨oA, -, -, -, r703, -⟩, ⟨o1, l1, q1⟩, -⟩, -⟩ := id k
    have f : cf (fun a j => a = shA s + (8 + 2 * i) ∧ 602 ≤ j ∧ j ≤ 604) h (pI (pI (pI h 602 (shA s + (8 + 2 * i)) 0) 603 (shA s + (8 + 2 * i)) 1) 604 (shA s + (8 + 2 * i)) (-1)) := ((cf_pI (S := fun a j => a = shA s + (8 + 2 * i) ∧ 602 ≤ j ∧ j ≤ 604) ⟨rfl, by omega, by omega⟩).tr (cf_pI ⟨rfl, by omega, by omega⟩)).tr (cf_pI ⟨rfl, by omega, by omega⟩)
    have at1 : shD (shSetD q (rnF (shD q) i)) i = shD q i := if_neg (Nat.lt_irrefl i)
    obtain ⟨k1, a1⟩ := k.dk (d := ([], true, -1, 0, dkR (shD q i))) w hs hi5 f rfl (by rw [zI_pI, if_neg (by omega), zI_pI, if_neg (by omega), zI_pI, if_pos ⟨rfl, rfl⟩]; rfl) (by rw [zI_pI, if_neg (by omega), zI_pI, if_pos ⟨rfl, rfl⟩]; rfl) (by rw [zI_pI, if_pos ⟨rfl, rfl⟩]) (Nat.zero_le _) (fun p hp => absurd hp (Nat.not_lt_zero _)) (by show 0 < 16; omega) ⟨fun r hr => (by cases hr), fun z => absurd rfl z⟩
    have k1 : shC (pI (pI (pI h 602 (shA s + (8 + 2 * i)) 0) 603 (shA s + (8 + 2 * i)) 1) 604 (shA s + (8 + 2 * i)) (-1)) own s u v (shSetD q (upf (rnF (shD q) i) i ([], true, -1, 0, dkR (shD q i)))) := k1
    rw [rnF_succ] at k1
    obtain ⟨h2, y1, y2, y3⟩ := c_renew43 (z := z) w hs hN m (i + 1) fuel _ k1 (by omega) (by omega)
    refine ⟨h2, ?_, y2, a1.tr y3⟩
    rw [← y1]
    have ni : (nI i).toNatClampNeg = i := zi_nat (by omega)
    have gi : ¬ nI i < 0 := zi_neg (by omega)
    have li : ¬ 5 ≤ i := by omega
    have qi := q1 i hi5
    simp only [f_X6_renew_43, o10, o00, bh, isO, inR, ck_true, bind_some9, Nat.reduceLeDiff, Nat.reduceEqDiff, and_self, and_true, true_and, false_and, and_false, not_false_eq_true, not_true_eq_false, or_self, or_false, false_or, if_true, if_false, reduceIte, zR_pE, zT_pE, zL_pE, zn_pE, zE_pE, zI_pE, zQ_pE, zJ_pE, zR_pI, zT_pI, zL_pI, zn_pI, zE_pI, zI_pI, zQ_pI, zJ_pI, zR_pR, zT_pR, zL_pR, zn_pR, zE_pR, zI_pR, zQ_pR, zJ_pR, zR_pJ, zT_pJ, zL_pJ, zn_pJ, zE_pJ, zI_pJ, zQ_pJ, zJ_pJ, c, oA, r703, o1, l1, ni, gi, li, qi, oD, zi_one]
theorem c_renew2 {vs : Nat → List Prg} {h : Hp} {own : Nat → Nat} {s v z : Nat} {u : Nat → Nat} {q : Shd} (k : shC h own s u v q) (hZ : shZ q ≤ 5) (hlen : ∀ r, r < shZ q → (dkL (shD q r)).length ≤ 10000) (hT : shT q < 65536) : ∀ (m r fuel : Nat), r + m = shZ q → m < fuel → f_X6_renew_2 fuel (shA s) (nI z) (nI r) h = if (List.range' r m).any (fun r => decide (0 < (dkL (shD q r)).length)) = true ∨ shT q ≠ 0 then some (0, h) else f_X6_renew_43 fz (shA s) (nI z) 0 h
  | m, r, 0, _, hf => absurd hf (Nat.not_lt_zero _)
  | 0, r, fuel + 1, hr, hf => by
    obtain ⟨⟨⟨oA, -⟩, -⟩, ⟨e7, -, e9, -⟩, -⟩ := id k
    have c : nI (shZ q) ≤ nI r := (zi_le (by omega) (by omega)).mpr (by omega)
    by_cases ct : shT q = 0
    · rw [if_neg (by
        rintro (z | z)
        · cases z
        · exact z ct)]
      have e : (nI (shT q) = 0) = True := eq_true (by rw [ct]; rfl)
      simp only [f_X6_renew_2, o10, o00, bh, isO, inR, ck_true, bind_some9, Nat.reduceLeDiff, Nat.reduceEqDiff, and_self, and_true, true_and, false_and, and_false, not_false_eq_true, not_true_eq_false, or_self, or_false, false_or, if_true, if_false, reduceIte, zR_pE, zT_pE, zL_pE, zn_pE, zE_pE, zI_pE, zQ_pE, zJ_pE, zR_pI, zT_pI, zL_pI, zn_pI, zE_pI, zI_pI, zQ_pI, zJ_pI, zR_pR, zT_pR, zL_pR, zn_pR, zE_pR, zI_pR, zQ_pR, zJ_pR, zR_pJ, zT_pJ, zL_pJ, zn_pJ, zE_pJ, zI_pJ, zQ_pJ, zJ_pJ, oA, e7, c, e9, e]
    · rw [if_pos (Or.inr ct)]
      have e : (nI (shT q) = 0) = False := eq_false (fun z => ct ((zi_eq (b := 0) (by omega) (by omega)).mp z))
      simp only [f_X6_renew_2, o10, o00, bh, isO, inR, ck_true, bind_some9, Nat.reduceLeDiff, Nat.reduceEqDiff, and_self, and_true, true_and, false_and, and_false, not_false_eq_true, not_true_eq_false, or_self, or_false, false_or, if_true, if_false, reduceIte, zR_pE, zT_pE, zL_pE, zn_pE, zE_pE, zI_pE, zQ_pE, zJ_pE, zR_pI, zT_pI, zL_pI, zn_pI, zE_pI, zI_pI, zQ_pI, zJ_pI, zR_pR, zT_pR, zL_pR, zn_pR, zE_pR, zI_pR, zQ_pR, zJ_pR, zR_pJ, zT_pJ, zL_pJ, zn_pJ, zE_pJ, zI_pJ, zQ_pJ, zJ_pJ, oA, e7, c, e9, e]
  | m + 1, r, fuel + 1, hr, hf => by
    obtain ⟨⟨⟨oA, -, -, -, r703, -⟩, ⟨o1, l1, q1⟩, -⟩, ⟨e7, -, e9, -⟩, -⟩ := id k
    have c : (nI (shZ q) ≤ nI r) = False := eq_false (zi_le0 (by omega) (by omega) (by omega))
    have hr5 : r < 5 := by omega
    obtain ⟨oD, d0, d2, d3, d4, dT, dM, -⟩ := c_dk k hr5
    have ni : (nI r).toNatClampNeg = r := zi_nat (by omega)
    have gi : ¬ nI r < 0 := zi_neg (by omega)
    have li : ¬ 5 ≤ r := by omega
    have qi := q1 r hr5
    have ln := hlen r (by omega)
    rw [List.range'_succ, List.any_cons]
    by_cases cl : 0 < (dkL (shD q r)).length
    · rw [decide_eq_true cl, Bool.true_or, if_pos (Or.inl rfl)]
      have e : (nI (dkSz (shD q r)) < (16 : Int32)) = False := eq_false (fun z => by
        have := (zi_lt (b := 16) (by unfold dkSz; omega) (by omega)).mp z
        unfold dkSz at this
        omega)
      simp only [f_X6_renew_2, o10, o00, bh, isO, inR, ck_true, bind_some9, Nat.reduceLeDiff, Nat.reduceEqDiff, and_self, and_true, true_and, false_and, and_false, not_false_eq_true, not_true_eq_false, or_self, or_false, false_or, if_true, if_false, reduceIte, zR_pE, zT_pE, zL_pE, zn_pE, zE_pE, zI_pE, zQ_pE, zJ_pE, zR_pI, zT_pI, zL_pI, zn_pI, zE_pI, zI_pI, zQ_pI, zJ_pI, zR_pR, zT_pR, zL_pR, zn_pR, zE_pR, zI_pR, zQ_pR, zJ_pR, zR_pJ, zT_pJ, zL_pJ, zn_pJ, zE_pJ, zI_pJ, zQ_pJ, zJ_pJ, oA, e7, c, r703, o1, l1, ni, gi, li, qi, oD, d2, e]
    · rw [decide_eq_false cl, Bool.false_or]
      have e : (nI (dkSz (shD q r)) < (16 : Int32)) = True := eq_true ((zi_lt (b := 16) (by unfold dkSz; omega) (by omega)).mpr (by unfold dkSz; omega))
      rw [← c_renew2 (vs := vs) k hZ hlen hT m (r + 1) fuel (by omega) (by omega)]
      simp only [f_X6_renew_2, o10, o00, bh, isO, inR, ck_true, bind_some9, Nat.reduceLeDiff, Nat.reduceEqDiff, and_self, and_true, true_and, false_and, and_false, not_false_eq_true, not_true_eq_false, or_self, or_false, false_or, if_true, if_false, reduceIte, zR_pE, zT_pE, zL_pE, zn_pE, zE_pE, zI_pE, zQ_pE, zJ_pE, zR_pI, zT_pI, zL_pI, zn_pI, zE_pI, zI_pI, zQ_pI, zJ_pI, zR_pR, zT_pR, zL_pR, zn_pR, zE_pR, zI_pR, zQ_pR, zJ_pR, zR_pJ, zT_pJ, zL_pJ, zn_pJ, zE_pJ, zI_pJ, zQ_pJ, zJ_pJ, oA, e7, c, r703, o1, l1, ni, gi, li, qi, oD, d2, e, zi_one]
section Calls
variable {vs : Nat → List Prg} {now : Int32} {K : Nat} {h : Hp} {own : Nat → Nat} {u : Nat → Nat → Nat} {v : Nat → Nat} {W : Wld}
theorem c_replicas (hK : K ≤ 2000) (S : WdS vs K W) (R : CW vs now h own u v W) (s n : Int32) : aCB vs now h own u v (wdReps W s n) (f_X10_replicas 8 s n h) := by
  obtain ⟨⟨o8, -, r1, -, r3⟩, o13, l13, q13⟩ := id R.2.1
  unfold wdReps
  by_cases c0 : s < 0
  · rw [if_pos (Or.inl c0)]
    simp only [f_X10_replicas, o10, o00, bh, isO, inR, ck_true, bind_some9, Nat.reduceLeDiff, Nat.reduceEqDiff, and_self, and_true, true_and, false_and, and_false, not_false_eq_true, not_true_eq_false, or_self, or_false, false_or, if_true, if_false, reduceIte, zR_pE, zT_pE, zL_pE, zn_pE, zE_pE, zI_pE, zQ_pE, zJ_pE, zR_pI, zT_pI, zL_pI, zn_pI, zE_pI, zI_pI, zQ_pI, zJ_pI, zR_pR, zT_pR, zL_pR, zn_pR, zE_pR, zI_pR, zQ_pR, zJ_pR, zR_pJ, zT_pJ, zL_pJ, zn_pJ, zE_pJ, zI_pJ, zQ_pJ, zJ_pJ, c0]
    exact aCB.id R false
  · by_cases c1 : (4 : Int32) ≤ s
    · rw [if_pos (Or.inr (Or.inl c1))]
      simp only [f_X10_replicas, o10, o00, bh, isO, inR, ck_true, bind_some9, Nat.reduceLeDiff, Nat.reduceEqDiff, and_self, and_true, true_and, false_and, and_false, not_false_eq_true, not_true_eq_false, or_self, or_false, false_or, if_true, if_false, reduceIte, zR_pE, zT_pE, zL_pE, zn_pE, zE_pE, zI_pE, zQ_pE, zJ_pE, zR_pI, zT_pI, zL_pI, zn_pI, zE_pI, zI_pI, zQ_pI, zJ_pI, zR_pR, zT_pR, zL_pR, zn_pR, zE_pR, zI_pR, zQ_pR, zJ_pR, zR_pJ, zT_pJ, zL_pJ, zn_pJ, zE_pJ, zI_pJ, zQ_pJ, zJ_pJ, c0, c1]
      exact aCB.id R false
    · by_cases c2 : n < 3
      · rw [if_pos (Or.inr (Or.inr (Or.inl c2)))]
        simp only [f_X10_replicas, o10, o00, bh, isO, inR, ck_true, bind_some9, Nat.reduceLeDiff, Nat.reduceEqDiff, and_self, and_true, true_and, false_and, and_false, not_false_eq_true, not_true_eq_false, or_self, or_false, false_or, if_true, if_false, reduceIte, zR_pE, zT_pE, zL_pE, zn_pE, zE_pE, zI_pE, zQ_pE, zJ_pE, zR_pI, zT_pI, zL_pI, zn_pI, zE_pI, zI_pI, zQ_pI, zJ_pI, zR_pR, zT_pR, zL_pR, zn_pR, zE_pR, zI_pR, zQ_pR, zJ_pR, zR_pJ, zT_pJ, zL_pJ, zn_pJ, zE_pJ, zI_pJ, zQ_pJ, zJ_pJ, c0, c1, c2]
        exact aCB.id R false
      · by_cases c3 : (5 : Int32) < n
        · rw [if_pos (Or.inr (Or.inr (Or.inr c3)))]
          have c3 : (n ≤ (5 : Int32)) = False := eq_false (Int32.not_le.mpr c3)
          simp only [f_X10_replicas, o10, o00, bh, isO, inR, ck_true, bind_some9, Nat.reduceLeDiff, Nat.reduceEqDiff, and_self, and_true, true_and, false_and, and_false, not_false_eq_true, not_true_eq_false, or_self, or_false, false_or, if_true, if_false, reduceIte, zR_pE, zT_pE, zL_pE, zn_pE, zE_pE, zI_pE, zQ_pE, zJ_pE, zR_pI, zT_pI, zL_pI, zn_pI, zE_pI, zI_pI, zQ_pI, zJ_pI, zR_pR, zT_pR, zL_pR, zn_pR, zE_pR, zI_pR, zQ_pR, zJ_pR, zR_pJ, zT_pJ, zL_pJ, zn_pJ, zE_pJ, zI_pJ, zQ_pJ, zJ_pJ, c0, c1, c2, c3]
          exact aCB.id R false
        · rw [if_neg (by
            rintro (z | z | z | z)
            · exact c0 z
            · exact c1 z
            · exact c2 z
            · exact c3 z)]
          have c3e : (n ≤ (5 : Int32)) = True := eq_true (Int32.not_lt.mp c3)
          obtain ⟨a, ha, ea⟩ := zi_of c0
          have na : (nI a).toNatClampNeg = a := zi_nat ha
          have a4 : a < 4 := by
            rw [ea] at c1
            by_cases z : a < 4
            · exact z
            · exact absurd ((zi_le (a := 4) (b := a) (by omega) ha).mpr (by omega)) c1
          have n0 : ¬ n < 0 := fun z => c2 (by
            have h3 : (0 : Int32) < 3 := by decide
            exact Int32.lt_trans z h3)
          obtain ⟨b, hb, eb⟩ := zi_of n0
          have nb : (nI b).toNatClampNeg = b := zi_nat hb
          have k := R.2.2 a a4
          obtain ⟨C, hS, hY⟩ := S a a4
          obtain ⟨z1, z2, z3, z4, z5, z6⟩ := cm_ok hS.1 hY hK
          have e2 := c_renew2 (vs := vs) (z := b) k z1 (fun r hr => by have := (z4 r hr).2; omega) z3 (shZ (W a)) 0 fz (by omega) (fz_big (by omega))
          rw [← List.range_eq_range'] at e2
          have e2 : f_X6_renew (shA a) (nI b) h = _ := e2
          have la : ¬ 4 ≤ a := by omega
          have qa := q13 a a4
          have oA := k.1.1.1
          rw [ea] at c0 c1 ⊢
          rw [eb] at c2 c3e ⊢
          rw [na, nb]
          have eR : shRenew (W a) b = if (List.range (shZ (W a))).any (fun r => decide (0 < (dkL (shD (W a) r)).length)) = true ∨ shT (W a) ≠ 0 then (false, W a) else (true, b, 0, shT (W a), fun x => if x < 5 then ([], true, -1, 0, dkR (shD (W a) x)) else shD (W a) x, shN (W a), shF (W a), shO (W a), shQ (W a)) := rfl
          rw [eR]
          by_cases cc : (List.range (shZ (W a))).any (fun r => decide (0 < (dkL (shD (W a) r)).length)) = true ∨ shT (W a) ≠ 0
          · rw [if_pos cc] at e2 ⊢
            simp only [f_X10_replicas, o10, o00, bh, isO, inR, ck_true, bind_some9, Nat.reduceLeDiff, Nat.reduceEqDiff, and_self, and_true, true_and, false_and, and_false, not_false_eq_true, not_true_eq_false, or_self, or_false, false_or, if_true, if_false, reduceIte, zR_pE, zT_pE, zL_pE, zn_pE, zE_pE, zI_pE, zQ_pE, zJ_pE, zR_pI, zT_pI, zL_pI, zn_pI, zE_pI, zI_pI, zQ_pI, zJ_pI, zR_pR, zT_pR, zL_pR, zn_pR, zE_pR, zI_pR, zQ_pR, zJ_pR, zR_pJ, zT_pJ, zL_pJ, zn_pJ, zE_pJ, zI_pJ, zQ_pJ, zJ_pJ, c0, c1, c2, c3e, o8, r3, o13, l13, na, la, qa, oA, e2, iB0]
            rw [upf_self]
            exact aCB.id R false
          · rw [if_neg cc] at e2 ⊢
            have k0 : shC h own a (u a) (v a) (shSetD (W a) (rnF (shD (W a)) 0)) := by
              have : rnF (shD (W a)) 0 = shD (W a) := by
                funext x
                exact if_neg (Nat.not_lt_zero x)
              rw [this]
              exact k
            obtain ⟨h2, y1, y2, y3⟩ := c_renew43 (z := b) R.1.1 a4 z6 5 0 fz h k0 (by omega) (fz_big (by omega))
            have y1 : f_X6_renew_43 fz (shA a) (nI b) 0 h = some (1, h2) := y1
            obtain ⟨R2, A2⟩ := R.one a4 y2 y3
            refine ⟨h2, own, _, _, ?_, R2, A2⟩
            simp only [f_X10_replicas, o10, o00, bh, isO, inR, ck_true, bind_some9, Nat.reduceLeDiff, Nat.reduceEqDiff, and_self, and_true, true_and, false_and, and_false, not_false_eq_true, not_true_eq_false, or_self, or_false, false_or, if_true, if_false, reduceIte, zR_pE, zT_pE, zL_pE, zn_pE, zE_pE, zI_pE, zQ_pE, zJ_pE, zR_pI, zT_pI, zL_pI, zn_pI, zE_pI, zI_pI, zQ_pI, zJ_pI, zR_pR, zT_pR, zL_pR, zn_pR, zE_pR, zI_pR, zQ_pR, zJ_pR, zR_pJ, zT_pJ, zL_pJ, zn_pJ, zE_pJ, zI_pJ, zQ_pJ, zJ_pJ, c0, c1, c2, c3e, o8, r3, o13, l13, na, la, qa, oA, e2, y1, iB1]
theorem c_power (hv : vsOK vs) (hK : K + 1 ≤ 2000) (S : WdS vs K W) (R : CW vs now h own u v W) (s r : Int32) (on : Bool) : aCB vs now h own u v (wdPower vs now W s r on) (f_X10_power 8 s r (if on = true then 1 else 0) h) := by
  obtain ⟨⟨o8, -, -, -, r3⟩, o13, l13, q13⟩ := id R.2.1
  have cx := R.1
  have ef := c_findR (by omega) S R s r
  unfold wdPower
  cases e : rplc W s r with
  | none =>
    rw [e] at ef
    have ef : f_X10_findReplica 8 s r h = some (0, h) := ef
    simp only [f_X10_power, o10, o00, bh, isO, inR, ck_true, bind_some9, Nat.reduceLeDiff, Nat.reduceEqDiff, and_self, and_true, true_and, false_and, and_false, not_false_eq_true, not_true_eq_false, or_self, or_false, false_or, if_true, if_false, reduceIte, zR_pE, zT_pE, zL_pE, zn_pE, zE_pE, zI_pE, zQ_pE, zJ_pE, zR_pI, zT_pI, zL_pI, zn_pI, zE_pI, zI_pI, zQ_pI, zJ_pI, zR_pR, zT_pR, zL_pR, zn_pR, zE_pR, zI_pR, zQ_pR, zJ_pR, zR_pJ, zT_pJ, zL_pJ, zn_pJ, zE_pJ, zI_pJ, zQ_pJ, zJ_pJ, o8, ef]
    exact aCB.id R false
  | some sr =>
    obtain ⟨s1, r1⟩ := sr
    rw [e] at ef
    have ef : f_X10_findReplica 8 s r h = some (shA s1 + (8 + 2 * r1), h) := ef
    obtain ⟨e1, e2, h4, hz, h5, k⟩ := rplc_at (by omega) S R e
    obtain ⟨C, hS, hY⟩ := S s1 h4
    obtain ⟨z1, z2, z3, z4, z5, z6⟩ := cm_ok hS.1 hY (by omega)
    obtain ⟨oD, d0, d2, d3, d4, dT, dM, B, y⟩ := c_dk k h5
    have ne := adR_ne s1 r1
    have n1 : (nI s1).toNatClampNeg = s1 := zi_nat (by omega)
    have g1 : ¬ nI s1 < 0 := zi_neg (by omega)
    have l4 : ¬ 4 ≤ s1 := by omega
    have qs := q13 s1 h4
    have oA := k.1.1.1
    rw [e1] at ef ⊢
    have k10 : ((1 : Int32) = 0) = False := eq_false (by decide)
    have k01 : ((0 : Int32) = 1) = False := eq_false (by decide)
    simp only []
    cases on with
    | true =>
      have b1 : (if true = true then (1 : Int32) else 0) = 1 := rfl
      rw [b1]
      cases cu : dkU (shD (W s1) r1) with
      | true =>
        rw [cu, if_pos rfl] at d3
        rw [if_pos rfl]
        simp only [f_X10_power, o10, o00, bh, isO, inR, ck_true, bind_some9, Nat.reduceLeDiff, Nat.reduceEqDiff, and_self, and_true, true_and, false_and, and_false, not_false_eq_true, not_true_eq_false, or_self, or_false, false_or, if_true, if_false, reduceIte, zR_pE, zT_pE, zL_pE, zn_pE, zE_pE, zI_pE, zQ_pE, zJ_pE, zR_pI, zT_pI, zL_pI, zn_pI, zE_pI, zI_pI, zQ_pI, zJ_pI, zR_pR, zT_pR, zL_pR, zn_pR, zE_pR, zI_pR, zQ_pR, zJ_pR, zR_pJ, zT_pJ, zL_pJ, zn_pJ, zE_pJ, zI_pJ, zQ_pJ, zJ_pJ, o8, ef, ne, oD, d3]
        exact aCB.id R false
      | false =>
        rw [cu, if_neg (fun z => Bool.noConfusion z)] at d3
        rw [if_neg (fun z => Bool.noConfusion z), if_pos rfl]
        obtain ⟨i1, i2⟩ := raise_I hS hz cu hY
        obtain ⟨h2, own2, u2, v2, x1, x2, x3⟩ := c_raise (by omega) k cx.1 cx.2.1 h4 hz hS.1 hY cu
        obtain ⟨oA1, h3, own3, u3, v3, x4, R2, A2⟩ := R.don h4 (donC_of hv h4 (by omega : K ≤ 2000) cx i1 i2 x2 x3)
        obtain ⟨R1, -⟩ := R.one h4 x2 x3
        obtain ⟨⟨o81, -, -, -, r31⟩, o131, l131, q131⟩ := id R1.2.1
        have qs1 := q131 s1 h4
        refine ⟨h3, own3, u3, v3, ?_, R2, A2⟩
        simp only [f_X10_power, o10, o00, bh, isO, inR, ck_true, bind_some9, Nat.reduceLeDiff, Nat.reduceEqDiff, and_self, and_true, true_and, false_and, and_false, not_false_eq_true, not_true_eq_false, or_self, or_false, false_or, if_true, if_false, reduceIte, zR_pE, zT_pE, zL_pE, zn_pE, zE_pE, zI_pE, zQ_pE, zJ_pE, zR_pI, zT_pI, zL_pI, zn_pI, zE_pI, zI_pI, zQ_pI, zJ_pI, zR_pR, zT_pR, zL_pR, zn_pR, zE_pR, zI_pR, zQ_pR, zJ_pR, zR_pJ, zT_pJ, zL_pJ, zn_pJ, zE_pJ, zI_pJ, zQ_pJ, zJ_pJ, o8, ef, ne, oD, d3, k01, k10, r3, o13, l13, n1, g1, l4, qs, oA, x1, o81, r31, o131, l131, qs1, oA1, x4]
    | false =>
      have b1 : (if false = true then (1 : Int32) else 0) = 0 := rfl
      rw [b1]
      cases cu : dkU (shD (W s1) r1) with
      | false =>
        rw [cu, if_neg (fun z => Bool.noConfusion z)] at d3
        rw [if_pos rfl]
        simp only [f_X10_power, o10, o00, bh, isO, inR, ck_true, bind_some9, Nat.reduceLeDiff, Nat.reduceEqDiff, and_self, and_true, true_and, false_and, and_false, not_false_eq_true, not_true_eq_false, or_self, or_false, false_or, if_true, if_false, reduceIte, zR_pE, zT_pE, zL_pE, zn_pE, zE_pE, zI_pE, zQ_pE, zJ_pE, zR_pI, zT_pI, zL_pI, zn_pI, zE_pI, zI_pI, zQ_pI, zJ_pI, zR_pR, zT_pR, zL_pR, zn_pR, zE_pR, zI_pR, zQ_pR, zJ_pR, zR_pJ, zT_pJ, zL_pJ, zn_pJ, zE_pJ, zI_pJ, zQ_pJ, zJ_pJ, o8, ef, ne, oD, d3]
        exact aCB.id R false
      | true =>
        rw [cu, if_pos rfl] at d3
        rw [if_neg (fun z => Bool.noConfusion z), if_neg (fun z => Bool.noConfusion z)]
        obtain ⟨i1, i2⟩ := lower_I hS hz hY
        obtain ⟨h2, own2, u2, v2, x1, x2, x3⟩ := c_lower k cx.1 cx.2.1 h4 h5 z1 z2
        obtain ⟨oA1, h3, own3, u3, v3, x4, R2, A2⟩ := R.don h4 (donC_of hv h4 hK cx i1 i2 x2 x3)
        obtain ⟨R1, -⟩ := R.one h4 x2 x3
        obtain ⟨⟨o81, -, -, -, r31⟩, o131, l131, q131⟩ := id R1.2.1
        have qs1 := q131 s1 h4
        refine ⟨h3, own3, u3, v3, ?_, R2, A2⟩
        simp only [f_X10_power, o10, o00, bh, isO, inR, ck_true, bind_some9, Nat.reduceLeDiff, Nat.reduceEqDiff, and_self, and_true, true_and, false_and, and_false, not_false_eq_true, not_true_eq_false, or_self, or_false, false_or, if_true, if_false, reduceIte, zR_pE, zT_pE, zL_pE, zn_pE, zE_pE, zI_pE, zQ_pE, zJ_pE, zR_pI, zT_pI, zL_pI, zn_pI, zE_pI, zI_pI, zQ_pI, zJ_pI, zR_pR, zT_pR, zL_pR, zn_pR, zE_pR, zI_pR, zQ_pR, zJ_pR, zR_pJ, zT_pJ, zL_pJ, zn_pJ, zE_pJ, zI_pJ, zQ_pJ, zJ_pJ, o8, ef, ne, oD, d3, k01, k10, r3, o13, l13, n1, g1, l4, qs, oA, x1, o81, r31, o131, l131, qs1, oA1, x4]
end Calls
