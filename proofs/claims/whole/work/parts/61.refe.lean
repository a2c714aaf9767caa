/-! AN ELECTION, IN THE REFERENCE -/
theorem w_lastTerm {h : Hp} (H : RF h) {N x : Nat} {I : List Nat} {d : Dk} (hx : x < 20) (hN : N ≤ 60000) (hd : dkAt h N I x d) : f_X11_lastTerm 616 (nI x) h = some (nI (dkLast d), h) := by
  obtain ⟨⟨-, -, q3, -⟩, ⟨q5, q6⟩, q7, q8, -⟩ := hd
  have nx : (nI x).toNatClampNeg = x := zi_nat (by omega)
  have gx : ¬ nI x < 0 := zi_neg (by omega)
  have lx : ¬ 20 ≤ x := by omega
  rcases lg_cases (dkL d) with e | ⟨A, r, e⟩
  · have q3 : zE h 639 x = 0 := by rw [q3, e]; rfl
    have e2 : dkLast d = 0 := by unfold dkLast; rw [e]; rfl
    rw [e2]
    simp only [f_X11_lastTerm, o10, o00, bh, isO, inR, ck_true, bind_some9, Nat.reduceLeDiff, Nat.reduceEqDiff, and_self, and_true, true_and, false_and, and_false, not_false_eq_true, not_true_eq_false, or_self, or_false, false_or, if_true, if_false, reduceIte, RF_o H, RF_1226 H, RO_634 H, RL_634 H, RF_1230 H, RO_638 H, RL_638 H, RF_1231 H, RO_639 H, RL_639 H, zR_pE, zT_pE, zL_pE, zn_pE, zE_pE, zI_pE, zR_pI, zT_pI, zL_pI, zn_pI, zE_pI, zI_pI, nx, gx, lx, q3]
    rfl
  · have e2 : dkLast d = rcT r := by unfold dkLast; rw [e, lgT_snoc]
    have len : (dkL d).length = A.length + 1 := by rw [e, List.length_append]; rfl
    rw [len] at q3 q5
    have hj : I[A.length]? = some (I[A.length]'(by omega)) := List.getElem?_eq_getElem (by omega)
    have i8 := q7 A.length _ hj
    have idk := q8 A.length _ r hj (by rw [e, List.getElem?_append_right (Nat.le_refl _), Nat.sub_self]; rfl)
    generalize I[A.length]'(by omega) = i at *
    have hi := idk.1
    have z0 : ¬ nI (A.length + 1) = (0 : Int32) := fun z => absurd ((zi_eq (b := 0) (by omega) (by omega)).mp z) (by omega)
    have e8 : nI (8192 * x + (A.length + 1)) - 1 = nI (8192 * x + A.length) := zi_sub (b := 1) (by omega)
    have n8 : (nI (8192 * x + A.length)).toNatClampNeg = 8192 * x + A.length := zi_nat (by omega)
    have g8 : ¬ nI (8192 * x + A.length) < 0 := zi_neg (by omega)
    have l8 : ¬ 163840 ≤ 8192 * x + A.length := by omega
    have ni : (nI i).toNatClampNeg = i := zi_nat (by omega)
    have gi : ¬ nI i < 0 := zi_neg (by omega)
    have li : ¬ 60000 ≤ i := by omega
    have et : zE h 634 i = nI (rcT r) := idk.2.2.1
    rw [e2]
    simp only [f_X11_lastTerm, o10, o00, bh, isO, inR, ck_true, bind_some9, Nat.reduceLeDiff, Nat.reduceEqDiff, and_self, and_true, true_and, false_and, and_false, not_false_eq_true, not_true_eq_false, or_self, or_false, false_or, if_true, if_false, reduceIte, RF_o H, RF_1226 H, RO_634 H, RL_634 H, RF_1230 H, RO_638 H, RL_638 H, RF_1231 H, RO_639 H, RL_639 H, zR_pE, zT_pE, zL_pE, zn_pE, zE_pE, zI_pE, zR_pI, zT_pI, zL_pI, zn_pI, zE_pI, zI_pI, nx, gx, lx, q3, z0, zi_big, e8, n8, g8, l8, i8, ni, gi, li, et]
theorem w_isBetter {h : Hp} (H : RF h) {N x y : Nat} {I J : List Nat} {d l : Dk} (hx : x < 20) (hy : y < 20) (hN : N ≤ 60000) (hd : dkAt h N I x d) (hl : dkAt h N J y l) (b1 : dkLast d < 60000) (b2 : dkLast l < 60000) : f_X11_isBetter 616 (nI x) (nI y) h = some (if dkAhead d l = true then 1 else 0, h) := by
  have e1 := w_lastTerm H hx hN hd
  have e2 := w_lastTerm H hy hN hl
  obtain ⟨⟨-, -, q3, -⟩, ⟨q5, q6⟩, -⟩ := hd
  obtain ⟨⟨-, -, p3, -⟩, ⟨p5, p6⟩, -⟩ := hl
  have nx : (nI x).toNatClampNeg = x := zi_nat (by omega)
  have gx : ¬ nI x < 0 := zi_neg (by omega)
  have lx : ¬ 20 ≤ x := by omega
  have ny : (nI y).toNatClampNeg = y := zi_nat (by omega)
  have gy : ¬ nI y < 0 := zi_neg (by omega)
  have ly : ¬ 20 ≤ y := by omega
  have qe : nI (dkLast d) = nI (dkLast l) ↔ dkLast d = dkLast l := zi_eq (by omega) (by omega)
  have ql : nI (dkLast d) ≤ nI (dkLast l) ↔ dkLast d ≤ dkLast l := zi_le (by omega) (by omega)
  have qw : nI (dkL d).length ≤ nI (dkL l).length ↔ (dkL d).length ≤ (dkL l).length := zi_le (by omega) (by omega)
  unfold dkAhead
  by_cases c : dkLast d = dkLast l
  · have d1 := eq_true (qe.mpr c)
    by_cases cw : (dkL d).length ≤ (dkL l).length
    · have d2 := eq_true (qw.mpr cw)
      rw [if_neg (by simp; omega)]
      simp only [f_X11_isBetter, o10, o00, bh, isO, inR, ck_true, bind_some9, Nat.reduceLeDiff, Nat.reduceEqDiff, and_self, and_true, true_and, false_and, and_false, not_false_eq_true, not_true_eq_false, or_self, or_false, false_or, if_true, if_false, reduceIte, RF_o H, RF_1231 H, RO_639 H, RL_639 H, zR_pE, zT_pE, zL_pE, zn_pE, zE_pE, zI_pE, zR_pI, zT_pI, zL_pI, zn_pI, zE_pI, zI_pI, e1, e2, d1, nx, gx, lx, ny, gy, ly, q3, p3, d2]
    · have d2 := eq_false (fun z => cw (qw.mp z))
      rw [if_pos (by simp; omega)]
      simp only [f_X11_isBetter, o10, o00, bh, isO, inR, ck_true, bind_some9, Nat.reduceLeDiff, Nat.reduceEqDiff, and_self, and_true, true_and, false_and, and_false, not_false_eq_true, not_true_eq_false, or_self, or_false, false_or, if_true, if_false, reduceIte, RF_o H, RF_1231 H, RO_639 H, RL_639 H, zR_pE, zT_pE, zL_pE, zn_pE, zE_pE, zI_pE, zR_pI, zT_pI, zL_pI, zn_pI, zE_pI, zI_pI, e1, e2, d1, nx, gx, lx, ny, gy, ly, q3, p3, d2]
  · have d1 := eq_false (fun z => c (qe.mp z))
    by_cases cw : dkLast d ≤ dkLast l
    · have d2 := eq_true (ql.mpr cw)
      rw [if_neg (by simp; omega)]
      simp only [f_X11_isBetter, o10, o00, bh, isO, inR, ck_true, bind_some9, Nat.reduceLeDiff, Nat.reduceEqDiff, and_self, and_true, true_and, false_and, and_false, not_false_eq_true, not_true_eq_false, or_self, or_false, false_or, if_true, if_false, reduceIte, RF_o H, RF_1231 H, RO_639 H, RL_639 H, zR_pE, zT_pE, zL_pE, zn_pE, zE_pE, zI_pE, zR_pI, zT_pI, zL_pI, zn_pI, zE_pI, zI_pI, e1, e2, d1, d2]
    · have d2 := eq_false (fun z => cw (ql.mp z))
      rw [if_pos (by simp; omega)]
      simp only [f_X11_isBetter, o10, o00, bh, isO, inR, ck_true, bind_some9, Nat.reduceLeDiff, Nat.reduceEqDiff, and_self, and_true, true_and, false_and, and_false, not_false_eq_true, not_true_eq_false, or_self, or_false, false_or, if_true, if_false, reduceIte, RF_o H, RF_1231 H, RO_639 H, RL_639 H, zR_pE, zT_pE, zL_pE, zn_pE, zE_pE, zI_pE, zR_pI, zT_pI, zL_pI, zn_pI, zE_pI, zI_pI, e1, e2, d1, d2]
/-- the best of the first r -/
def cnd (D : Nat → Dk) (r : Nat) : Int32 := (List.range r).foldl (fun b r => if dkU (D r) = true ∧ (b = -1 ∨ dkAhead (D r) (D b.toNatClampNeg) = true) then Int32.ofNat r else b) (-1)
theorem cnd_succ (D : Nat → Dk) (r : Nat) : cnd D (r + 1) = if dkU (D r) = true ∧ (cnd D r = -1 ∨ dkAhead (D r) (D (cnd D r).toNatClampNeg) = true) then nI r else cnd D r := by
  unfold cnd
  rw [List.range_succ, List.foldl_append]
  rfl
theorem cnd_in (D : Nat → Dk) : ∀ r, r ≤ 5 → cnd D r = -1 ∨ ∃ b, b < r ∧ cnd D r = nI b
  | 0, _ => Or.inl rfl
  | r + 1, hr => by
    rw [cnd_succ]
    split
    · exact Or.inr ⟨r, by omega, rfl⟩
    · rcases cnd_in D r (by omega) with z | ⟨b, z1, z2⟩
      · exact Or.inl z
      · exact Or.inr ⟨b, by omega, z2⟩
theorem w_elect_14 {KL : Nat → Int32 → Hp → Option Hp} {h : Hp} (H : RF h) {N s Z : Nat} {I : Nat → List Nat} {D : Nat → Dk} (hs : s < 4) (hZ : Z ≤ 5) (hN : N ≤ 60000) (ez : zE h 644 s = nI Z) (ds : dsAt h N I s D) (ht : ∀ r, r < 5 → dkLast (D r) < 60000) : ∀ (m r fuel : Nat), r + m = Z → m < fuel → f_X11_elect_14 KL fuel 616 (nI s) (cnd D r) (nI r) h = f_X11_elect_69 KL fz 616 (nI s) (cnd D Z) 0 h
  | m, r, 0, _, hf => absurd hf (Nat.not_lt_zero _)
  | 0, r, fuel + 1, hr, hf => by
    have c : nI Z ≤ nI r := (zi_le (by omega) (by omega)).mpr (by omega)
    have nx : (nI s).toNatClampNeg = s := zi_nat (by omega)
    have gx : ¬ nI s < 0 := zi_neg (by omega)
    have lx : ¬ 4 ≤ s := by omega
    have er : r = Z := by omega
    rw [er] at c ⊢
    simp only [f_X11_elect_14, o10, o00, bh, isO, inR, ck_true, bind_some9, Nat.reduceLeDiff, Nat.reduceEqDiff, and_self, and_true, true_and, false_and, and_false, not_false_eq_true, not_true_eq_false, or_self, or_false, false_or, if_true, if_false, reduceIte, RF_o H, RF_1234 H, RO_642 H, RL_642 H, RF_1236 H, RO_644 H, RL_644 H, zR_pE, zT_pE, zL_pE, zn_pE, zE_pE, zI_pE, zR_pI, zT_pI, zL_pI, zn_pI, zE_pI, zI_pI, nx, gx, lx, ez, c]
  | m + 1, r, fuel + 1, hr, hf => by
    have c : ¬ nI Z ≤ nI r := zi_le0 (by omega) (by omega) (by omega)
    have nx : (nI s).toNatClampNeg = s := zi_nat (by omega)
    have gx : ¬ nI s < 0 := zi_neg (by omega)
    have lx : ¬ 4 ≤ s := by omega
    have nr : (nI (5 * s + r)).toNatClampNeg = 5 * s + r := zi_nat (by omega)
    have gr : ¬ nI (5 * s + r) < 0 := zi_neg (by omega)
    have lr : ¬ 20 ≤ 5 * s + r := by omega
    have eu := (ds r (by omega)).1.1
    have ih := w_elect_14 (KL := KL) H hs hZ hN ez ds ht m (r + 1) fuel (by omega) (by omega)
    rw [← ih, cnd_succ]
    cases hu : dkU (D r) with
    | false =>
      rw [hu, if_neg (fun z => Bool.noConfusion z)] at eu
      rw [if_neg (fun z => Bool.noConfusion z.1)]
      simp only [f_X11_elect_14, f_X11_elect_61, o10, o00, bh, isO, inR, ck_true, bind_some9, Nat.reduceLeDiff, Nat.reduceEqDiff, and_self, and_true, true_and, false_and, and_false, not_false_eq_true, not_true_eq_false, or_self, or_false, false_or, if_true, if_false, reduceIte, RF_o H, RF_1234 H, RO_642 H, RL_642 H, RF_1236 H, RO_644 H, RL_644 H, zR_pE, zT_pE, zL_pE, zn_pE, zE_pE, zI_pE, zR_pI, zT_pI, zL_pI, zn_pI, zE_pI, zI_pI, nx, gx, lx, ez, c, zi_five, nr, gr, lr, eu, zi_one]
    | true =>
      rw [hu, if_pos rfl] at eu
      rcases cnd_in D r (by omega) with z | ⟨b, z1, z2⟩
      · rw [if_pos ⟨rfl, Or.inl z⟩]
        have d1 := eq_true z
        generalize cnd D r = cc at *
        simp only [f_X11_elect_14, f_X11_elect_59, f_X11_elect_61, o10, o00, bh, isO, inR, ck_true, bind_some9, Nat.reduceLeDiff, Nat.reduceEqDiff, and_self, and_true, true_and, false_and, and_false, not_false_eq_true, not_true_eq_false, or_self, or_false, false_or, if_true, if_false, reduceIte, RF_o H, RF_1234 H, RO_642 H, RL_642 H, RF_1236 H, RO_644 H, RL_644 H, zR_pE, zT_pE, zL_pE, zn_pE, zE_pE, zI_pE, zR_pI, zT_pI, zL_pI, zn_pI, zE_pI, zI_pI, nx, gx, lx, ez, c, zi_five, nr, gr, lr, eu, d1, zi_one]
      · have n1 : ¬ nI b = -1 := zi_ne1 (by omega)
        have eb := w_isBetter H (by omega : 5 * s + r < 20) (by omega : 5 * s + b < 20) hN (ds r (by omega)) (ds b (by omega)) (ht r (by omega)) (ht b (by omega))
        rw [z2, zi_nat (by omega)]
        cases ha : dkAhead (D r) (D b) with
        | false =>
          rw [ha, if_neg (fun z => Bool.noConfusion z)] at eb
          rw [if_neg (fun z => by rcases z.2 with y | y; exact n1 y; exact Bool.noConfusion y)]
          simp only [f_X11_elect_14, f_X11_elect_61, o10, o00, bh, isO, inR, ck_true, bind_some9, Nat.reduceLeDiff, Nat.reduceEqDiff, and_self, and_true, true_and, false_and, and_false, not_false_eq_true, not_true_eq_false, or_self, or_false, false_or, if_true, if_false, reduceIte, RF_o H, RF_1234 H, RO_642 H, RL_642 H, RF_1236 H, RO_644 H, RL_644 H, zR_pE, zT_pE, zL_pE, zn_pE, zE_pE, zI_pE, zR_pI, zT_pI, zL_pI, zn_pI, zE_pI, zI_pI, nx, gx, lx, ez, c, zi_five, nr, gr, lr, eu, n1, eb, zi_one]
        | true =>
          rw [ha, if_pos rfl] at eb
          rw [if_pos ⟨rfl, Or.inr rfl⟩]
          simp only [f_X11_elect_14, f_X11_elect_59, f_X11_elect_61, o10, o00, bh, isO, inR, ck_true, bind_some9, Nat.reduceLeDiff, Nat.reduceEqDiff, and_self, and_true, true_and, false_and, and_false, not_false_eq_true, not_true_eq_false, or_self, or_false, false_or, if_true, if_false, reduceIte, RF_o H, RF_1234 H, RO_642 H, RL_642 H, RF_1236 H, RO_644 H, RL_644 H, zR_pE, zT_pE, zL_pE, zn_pE, zE_pE, zI_pE, zR_pI, zT_pI, zL_pI, zn_pI, zE_pI, zI_pI, nx, gx, lx, ez, c, zi_five, nr, gr, lr, eu, n1, eb, zi_one]
theorem idsOf_take {I J : List Nat} {L M : List Rec} (h : idsOf I J L M) (n : Nat) : idsOf (I.take n) J (L.take n) M := by
  obtain ⟨h1, h2, h3⟩ := h
  refine ⟨by rw [List.length_take, List.length_take, h1], h2, fun k i j a b q1 q2 q3 q4 => ?_⟩
  rw [List.getElem?_take] at q1 q3
  split at q1
  · next c =>
    rw [if_pos c] at q3
    exact h3 k i j a b q1 q2 q3 q4
  · cases q1
theorem idsOf_comm {I J : List Nat} {L M : List Rec} (h : idsOf I J L M) : idsOf J I M L := ⟨h.2.1, h.1, fun k i j a b q1 q2 q3 q4 => ⟨fun z => ((h.2.2 k j i b a q2 q1 q4 q3).mp z.symm).symm, fun z => ((h.2.2 k j i b a q2 q1 q4 q3).mpr z.symm).symm⟩⟩
theorem uq_alike {I I1 : Nat → List Nat} {D D1 : Nat → Dk} {x l n : Nat} (hx : x < 5) (hl : l < 5) (h : uqI I D) (e1 : I1 x = (I l).take n) (e2 : dkL (D1 x) = (dkL (D l)).take n) (e3 : ∀ y, y ≠ x → I1 y = I y) (e4 : ∀ y, y ≠ x → D1 y = D y) : uqI I1 D1 := fun y z hy hz => by
  by_cases cy : y = x
  · by_cases cz : z = x
    · rw [cy, cz, e1, e2]
      exact idsOf_comm (idsOf_take (idsOf_comm (idsOf_take (h l l hl hl) n)) n)
    · rw [cy, e1, e2, e3 z cz, e4 z cz]
      exact idsOf_take (h l z hl hz) n
  · by_cases cz : z = x
    · rw [cz, e1, e2, e3 y cy, e4 y cy]
      exact idsOf_comm (idsOf_take (h l y hl hy) n)
    · rw [e3 y cy, e4 y cy, e3 z cz, e4 z cz]; exact h y z hy hz
/-- a record is made and spread, whoever leads -/
theorem w_spr {h : Hp} (H : RF h) {N s l : Nat} {I : Nat → List Nat} {q : Shd} (hs : s < 4) (hN : zI h 1224 616 = nI N) (hN6 : N < 59999) (d1 : zE h 644 s = nI (shZ q)) (d7 : dsAt h N I s (shD (shV q))) (d8 : uqI I (shD (shV q))) (h5 : shZ q ≤ 5) (w2 : shL q = nI l) (w1 : l < shZ q) (w3 : dkU (shD q l) = true) (w4 : ∀ x, x < shZ q → dkU (shD q x) = true → dkL (shD q x) = dkL (shD q l)) (b2 : ∀ x, x < shZ q → (dkL (shD q x)).length ≤ 8000 ∧ dkOK (shD q x)) (fre : ∀ x, x < shZ q → ∀ r, (dkL (shD q x))[(dkL (shD q l)).length]? = some r → rcT r ≠ shT q) (k n : Nat) (a b c : Int32) :
    ∃ h0 h1 I1 r D1, f_X11_newRecord 616 (nI n) (nI k) (nI (shT q)) a b c h = some (nI N, h0) ∧ RF h0 ∧ f_X11_spread 616 (nI s) (nI l) (nI N) h0 = some (r, h1) ∧ frx (dwS s N) h h1 ∧ zI h1 1224 616 = nI (N + 1) ∧ dsAt h1 (N + 1) I1 s (shD (shV (shSetD (shTried q) D1))) ∧ uqI I1 (shD (shV (shSetD (shTried q) D1))) ∧ (∀ x, x < shZ q → dkOK (D1 x)) ∧
      (((shCommit q k n a b c).1 = true ∧ r = 1 ∧ (shCommit q k n a b c).2 = shSetD (shTried q) D1) ∨ ((shCommit q k n a b c).1 = false ∧ r = 0 ∧ (shCommit q k n a b c).2 = shLose (shSetD (shTried q) D1))) := by
  have lens : ∀ r, r < 5 → (I r).length ≤ 8000 := fun r hr => by
    rw [(d7 r hr).2.1.1]
    by_cases c : r < shZ q
    · rw [vD_lt c]; exact (b2 r c).1
    · rw [vD_ge c]; exact Nat.zero_le _
  have d9 : ∀ r, r < 5 → dkOK (shD (shV q) r) := fun r hr => by
    by_cases c : r < shZ q
    · rw [vD_lt c]; exact (b2 r c).2
    · rw [vD_ge c]; intro z; cases z
  generalize hrc : ((n, k, shT q, a, b, c) : Rec) = rc
  have enr := x_newRecord (n := nI n) (k := nI k) (t := nI (shT q)) (a := a) (b := b) (c := c) H hN (by omega)
  have f0 := fr_nr h N (nI n) (nI k) (nI (shT q)) a b c
  have rc0 := rc_new h N (n := n) (k := k) (t := shT q) a b c
  rw [hrc] at rc0
  have en0 : zI (pI (pE (pE (pE (pE (pE h 633 N (16 * nI n + nI k)) 634 N (nI (shT q))) 635 N a) 636 N b) 637 N c) 1224 616 (nI (N + 1))) 1224 616 = nI (N + 1) := by rw [zI_pI, if_pos ⟨rfl, rfl⟩]
  generalize pI (pE (pE (pE (pE (pE h 633 N (16 * nI n + nI k)) 634 N (nI (shT q))) 635 N a) 636 N b) 637 N c) 1224 616 (nI (N + 1)) = h0 at *
  have H0 := H.on f0
  have ds0 : dsAt h0 (N + 1) I s (shD (shV q)) := fun r hr => ((d7 r hr).on f0 (fun a i hi => by unfold nrS; omega) (fun a j z => by unfold dkS at z; unfold nrS; omega)).more (Nat.le_succ _)
  have hz0 : zE h0 644 s = nI (shZ q) := by rw [f0.2.2.2 644 s (by unfold nrS; omega)]; exact d1
  have vl : shD (shV q) l = shD q l := vD_lt w1
  have rest : ∀ h1 : Hp, frx (dsS s) h0 h1 → frx (dwS s N) h h1 ∧ zI h1 1224 616 = nI (N + 1) := fun h1 f => by
    refine ⟨(f0.mono (fun a j z => Or.inl z)).trans (f.mono (fun a j z => Or.inr z)), ?_⟩
    rw [f.2.2.1 1224 (fun z => by obtain ⟨r, -, z⟩ := z; unfold dkS at z; omega)]; exact en0
  have hcm := shCommit_or w2 (by omega) k n a b c
  rw [hrc] at hcm
  rcases w_spread H0 (Z := shZ q) hs h5 w1 (by omega : N + 1 ≤ 60000) hz0 ds0 (fun r hr => by have := lens r hr; omega) d9 (by rw [vl]; exact w3) (Nat.lt_succ_self N) rc0 with ⟨u1, h1, e1, f1, a1⟩ | ⟨u1, h1, e1, f1, a1⟩
  · rw [vl] at u1
    have cm : shCommit q k n a b c = (false, shLose (shSetD (shTried q) (upf (shD q) l (dkWrite (shD q l) rc)))) := by
      rcases hcm with ⟨-, z⟩ | ⟨z, -⟩ | ⟨z, -⟩
      · exact z
      · rw [u1] at z; cases z
      · rw [u1] at z; cases z
    have eD : shD (shV (shSetD (shTried q) (upf (shD q) l (dkWrite (shD q l) rc)))) = upf (shD (shV q)) l (dkWrite (shD (shV q) l) rc) := by
      funext x
      rw [vl]
      by_cases cx : x < shZ q
      · rw [show shD (shV (shSetD (shTried q) (upf (shD q) l (dkWrite (shD q l) rc)))) x = upf (shD q) l (dkWrite (shD q l) rc) x from if_pos cx]
        unfold upf
        split
        · rfl
        · exact (vD_lt cx).symm
      · rw [show shD (shV (shSetD (shTried q) (upf (shD q) l (dkWrite (shD q l) rc)))) x = ([], false, -1, 0, (0, 0, 0, 0, 0, 0)) from if_neg cx]
        rw [show upf (shD (shV q)) l (dkWrite (shD q l) rc) x = shD (shV q) x from if_neg (by omega)]
        exact (vD_ge cx).symm
    have uq : uqI I (upf (shD (shV q)) l (dkWrite (shD (shV q) l) rc)) := fun x y hx hy => by
      have eL : ∀ x, dkL (upf (shD (shV q)) l (dkWrite (shD (shV q) l) rc) x) = dkL (shD (shV q) x) := fun x => by
        by_cases cx : x = l
        · rw [show upf (shD (shV q)) l _ x = _ from if_pos cx, cx]
          rcases dkWrite_or (shD (shV q) l) rc with ⟨z, -⟩ | ⟨-, z⟩
          · rw [vl, u1] at z; cases z
          · exact z
        · rw [show upf (shD (shV q)) l _ x = _ from if_neg cx]
      rw [eL, eL]; exact d8 x y hx hy
    obtain ⟨z1, z2⟩ := rest h1 f1
    exact ⟨h0, h1, I, 0, upf (shD q) l (dkWrite (shD q l) rc), enr, H0, e1, z1, z2, by rw [eD]; exact a1, by rw [eD]; exact uq, fun x hx => by
      unfold upf
      split
      · exact dkOK_write rc (b2 l w1).2
      · exact (b2 x hx).2, Or.inr ⟨by rw [cm], rfl, by rw [cm]⟩⟩
  · rw [vl] at u1
    have eD : shD (shV (shSetD (shTried q) (shSpread q l rc))) = spD (shD (shV q)) l rc (shZ q) := by
      funext x
      by_cases cx : x < shZ q
      · rw [show shD (shV (shSetD (shTried q) (shSpread q l rc))) x = shSpread q l rc x from if_pos cx, shSpread_any q rc cx]
        unfold spD
        rw [if_pos (Or.inr cx), vD_lt cx]
      · rw [show shD (shV (shSetD (shTried q) (shSpread q l rc))) x = ([], false, -1, 0, (0, 0, 0, 0, 0, 0)) from if_neg cx]
        unfold spD
        rw [if_neg (by omega)]
        exact (vD_ge cx).symm
    have uq : uqI (spI (shD (shV q)) I l rc N (shZ q)) (spD (shD (shV q)) l rc (shZ q)) := by
      refine uq_spread d8 h5 w1 (by rw [vl]; exact w3) (fun x hx hu => ?_) (fun x hx j hj => ?_) (fun x hx r hr => ?_)
      · rw [vD_lt hx] at hu ⊢
        rw [vl]; exact w4 x hx hu
      · obtain ⟨y, hy⟩ := List.getElem?_of_mem hj
        obtain ⟨-, ⟨le, -⟩, -, ids, -⟩ := d7 x hx
        have yl := (List.getElem?_eq_some_iff.mp hy).1
        have := (ids y j _ hy (List.getElem?_eq_getElem (by omega))).1
        omega
      · rw [vl] at hr
        by_cases cx : x < shZ q
        · rw [vD_lt cx] at hr
          intro e
          refine fre x cx r hr ?_
          rw [e, ← hrc]
        · rw [vD_ge cx] at hr
          have hr : ([] : List Rec)[(dkL (shD q l)).length]? = some r := hr
          rw [List.getElem?_nil] at hr
          cases hr
    have eW : ((List.range (shZ q)).filter (fun x => dkU (spD (shD (shV q)) l rc (shZ q) x))).length = ((List.range (shZ q)).filter (fun r => dkU (shSpread q l rc r))).length := by
      congr 1
      refine List.filter_congr (fun x hx => ?_)
      have hx := List.mem_range.mp hx
      rw [← eD, show shD (shV (shSetD (shTried q) (shSpread q l rc))) x = shSpread q l rc x from if_pos hx]
    rw [eW] at e1
    obtain ⟨z1, z2⟩ := rest h1 f1
    have z3 : dsAt h1 (N + 1) (spI (shD (shV q)) I l rc N (shZ q)) s (shD (shV (shSetD (shTried q) (shSpread q l rc)))) := by rw [eD]; exact a1
    have z4 : uqI (spI (shD (shV q)) I l rc N (shZ q)) (shD (shV (shSetD (shTried q) (shSpread q l rc)))) := by rw [eD]; exact uq
    have z5 : ∀ x, x < shZ q → dkOK (shSpread q l rc x) := fun x hx => (shSpread_dn q l rc x hx).2.2 (b2 x hx).2
    have em := shMost_iff (shSetD (shTried q) (shSpread q l rc))
    by_cases cm : shZ q < 2 * ((List.range (shZ q)).filter (fun r => dkU (shSpread q l rc r))).length
    · have hm : shMost (shSetD (shTried q) (shSpread q l rc)) = true := em.mpr cm
      have cmt : shCommit q k n a b c = (true, shSetD (shTried q) (shSpread q l rc)) := by
        rcases hcm with ⟨z, -⟩ | ⟨-, -, z⟩ | ⟨-, z, -⟩
        · rw [u1] at z; cases z
        · exact z
        · rw [hm] at z; cases z
      rw [if_pos cm] at e1
      exact ⟨h0, h1, _, 1, _, enr, H0, e1, z1, z2, z3, z4, z5, Or.inl ⟨by rw [cmt], rfl, by rw [cmt]⟩⟩
    · have hm : shMost (shSetD (shTried q) (shSpread q l rc)) = false := by
        cases hm : shMost (shSetD (shTried q) (shSpread q l rc)) with
        | false => rfl
        | true => exact absurd (em.mp hm) cm
      have cmt : shCommit q k n a b c = (false, shLose (shSetD (shTried q) (shSpread q l rc))) := by
        rcases hcm with ⟨z, -⟩ | ⟨-, z, -⟩ | ⟨-, -, z⟩
        · rw [u1] at z; cases z
        · rw [hm] at z; cases z
        · exact z
      rw [if_neg cm] at e1
      exact ⟨h0, h1, _, 0, _, enr, H0, e1, z1, z2, z3, z4, z5, Or.inr ⟨by rw [cmt], rfl, by rw [cmt]⟩⟩
/-- the others are made alike the leader's log, one after another -/
def alD (D : Nat → Dk) (l r : Nat) : Nat → Dk := fun x => if x < r ∧ x ≠ l ∧ dkU (D x) = true then dkAlike (D x) (D l) else D x
theorem w_elect_69 {KL : Nat → Int32 → Hp → Option Hp} {N s l Z : Nat} {D : Nat → Dk} (hs : s < 4) (hZ : Z ≤ 5) (hl : l < Z) (hN : N ≤ 60000) (hok : ∀ r, r < 5 → dkOK (D r)) (hle : ∀ r, r < 5 → (dkL (D r)).length ≤ 8000) : ∀ (m r fuel : Nat) (h : Hp) (I : Nat → List Nat), RF h → zE h 644 s = nI Z → dsAt h N I s (alD D l r) → uqI I (alD D l r) → r + m = Z → m < fuel →
    ∃ h1 I1 n1, f_X11_elect_69 KL fuel 616 (nI s) (nI l) (nI r) h = f_X11_elect_69 KL (n1 + 1) 616 (nI s) (nI l) (nI Z) h1 ∧ frx (dsS s) h h1 ∧ dsAt h1 N I1 s (alD D l Z) ∧ uqI I1 (alD D l Z)
  | m, r, 0, h, I, _, _, _, _, _, hf => absurd hf (Nat.not_lt_zero _)
  | 0, r, fuel + 1, h, I, H, ez, ds, uq, hr, hf => by
    have er : r = Z := by omega
    rw [er] at ds uq ⊢
    exact ⟨h, I, fuel, rfl, frx.rf h, ds, uq⟩
  | m + 1, r, fuel + 1, h, I, H, ez, ds, uq, hr, hf => by
    have c : ¬ nI Z ≤ nI r := zi_le0 (by omega) (by omega) (by omega)
    have nx : (nI s).toNatClampNeg = s := zi_nat (by omega)
    have gx : ¬ nI s < 0 := zi_neg (by omega)
    have lx : ¬ 4 ≤ s := by omega
    have nr : (nI (5 * s + r)).toNatClampNeg = 5 * s + r := zi_nat (by omega)
    have gr : ¬ nI (5 * s + r) < 0 := zi_neg (by omega)
    have lr : ¬ 20 ≤ 5 * s + r := by omega
    have ql : nI r = nI l ↔ r = l := zi_eq (by omega) (by omega)
    have atr : alD D l r r = D r := by unfold alD; rw [if_neg (by omega)]
    have atl : ∀ y, alD D l y l = D l := fun y => by unfold alD; rw [if_neg (fun z => z.2.1 rfl)]
    have oth : ∀ x, x ≠ r → alD D l (r + 1) x = alD D l r x := fun x hx => by
      unfold alD
      by_cases c1 : x < r ∧ x ≠ l ∧ dkU (D x) = true
      · rw [if_pos ⟨by omega, c1.2⟩, if_pos c1]
      · rw [if_neg (fun z => c1 ⟨by omega, z.2⟩), if_neg c1]
    have stay : (r = l ∨ dkU (D r) = false) → alD D l (r + 1) = alD D l r := fun q => by
      funext x
      by_cases cx : x = r
      · rw [cx, atr]
        unfold alD
        rw [if_neg]
        rintro ⟨-, z2, z3⟩
        rcases q with q | q
        · exact z2 q
        · rw [q] at z3; cases z3
      · exact oth x cx
    have eu := (ds r (by omega)).1.1
    rw [atr] at eu
    by_cases cl : r = l
    · have d1 := eq_true (ql.mpr cl)
      obtain ⟨h1, I1, n1, a1, a2, a3, a4⟩ := w_elect_69 (KL := KL) hs hZ hl hN hok hle m (r + 1) fuel h I H ez (by rw [stay (Or.inl cl)]; exact ds) (by rw [stay (Or.inl cl)]; exact uq) (by omega) (by omega)
      refine ⟨h1, I1, n1, ?_, a2, a3, a4⟩
      rw [← a1]
      simp only [f_X11_elect_69, f_X11_elect_111, o10, o00, bh, isO, inR, ck_true, bind_some9, Nat.reduceLeDiff, Nat.reduceEqDiff, and_self, and_true, true_and, false_and, and_false, not_false_eq_true, not_true_eq_false, or_self, or_false, false_or, if_true, if_false, reduceIte, RF_o H, RF_1234 H, RO_642 H, RL_642 H, RF_1236 H, RO_644 H, RL_644 H, RF_1237 H, RO_645 H, RL_645 H, RF_1238 H, RO_646 H, RL_646 H, zR_pE, zT_pE, zL_pE, zn_pE, zE_pE, zI_pE, zR_pI, zT_pI, zL_pI, zn_pI, zE_pI, zI_pI, nx, gx, lx, ez, c, d1, zi_one]
    · have d1 := eq_false (fun z => cl (ql.mp z))
      cases hu : dkU (D r) with
      | false =>
        rw [hu, if_neg (fun z => Bool.noConfusion z)] at eu
        obtain ⟨h1, I1, n1, a1, a2, a3, a4⟩ := w_elect_69 (KL := KL) hs hZ hl hN hok hle m (r + 1) fuel h I H ez (by rw [stay (Or.inr hu)]; exact ds) (by rw [stay (Or.inr hu)]; exact uq) (by omega) (by omega)
        refine ⟨h1, I1, n1, ?_, a2, a3, a4⟩
        rw [← a1]
        simp only [f_X11_elect_69, f_X11_elect_111, o10, o00, bh, isO, inR, ck_true, bind_some9, Nat.reduceLeDiff, Nat.reduceEqDiff, and_self, and_true, true_and, false_and, and_false, not_false_eq_true, not_true_eq_false, or_self, or_false, false_or, if_true, if_false, reduceIte, RF_o H, RF_1234 H, RO_642 H, RL_642 H, RF_1236 H, RO_644 H, RL_644 H, RF_1237 H, RO_645 H, RL_645 H, RF_1238 H, RO_646 H, RL_646 H, zR_pE, zT_pE, zL_pE, zn_pE, zE_pE, zI_pE, zR_pI, zT_pI, zL_pI, zn_pI, zE_pI, zI_pI, nx, gx, lx, ez, c, d1, zi_five, nr, gr, lr, eu, zi_one]
      | true =>
        rw [hu, if_pos rfl] at eu
        obtain ⟨ht, hF⟩ := hok r (by omega) hu
        have dr := ds r (by omega)
        have dl := ds l (by omega)
        have ids := uq r l (by omega) (by omega)
        rw [atr] at dr ids
        rw [atl] at dl ids
        have hJ : (I l).length < 8191 := by have := hle l (by omega); rw [dl.2.1.1]; omega
        obtain ⟨h1, e1, f1, a1⟩ := w_alike H (by omega : 5 * s + r < 20) (by omega : 5 * s + l < 20) (by omega) dr dl hN hJ ids hu ht hF
        have f1s : frx (dsS s) h h1 := f1.mono (fun a j z => ⟨r, by omega, z⟩)
        have new : alD D l (r + 1) r = dkAlike (D r) (D l) := by unfold alD; rw [if_pos ⟨by omega, cl, hu⟩]
        have ds1 : dsAt h1 N (upf I r ((I l).take (dkL (dkAlike (D r) (D l))).length)) s (alD D l (r + 1)) := by
          refine dsAt.one ds (by omega) f1 ?_ (fun x hx => if_neg hx) oth
          rw [new, show upf I r ((I l).take (dkL (dkAlike (D r) (D l))).length) r = _ from if_pos rfl]
          exact a1
        have eL : dkL (dkAlike (D r) (D l)) = (dkL (D l)).take (dkL (dkAlike (D r) (D l))).length := by
          obtain ⟨j, -, z, -⟩ := dkAlike_or (D r) (D l)
          rw [z, List.length_take, List.take_eq_take_iff]
          omega
        have uq1 : uqI (upf I r ((I l).take (dkL (dkAlike (D r) (D l))).length)) (alD D l (r + 1)) := uq_alike (n := (dkL (dkAlike (D r) (D l))).length) (by omega : r < 5) (by omega : l < 5) uq (if_pos rfl) (by rw [new, atl]; exact eL) (fun y hy => if_neg hy) oth
        obtain ⟨h2, I2, n2, b1, b2, b3, b4⟩ := w_elect_69 (KL := KL) hs hZ hl hN hok hle m (r + 1) fuel h1 _ (H.on f1) (by rw [f1.2.2.2 644 s (by unfold dkS; omega)]; exact ez) ds1 uq1 (by omega) (by omega)
        refine ⟨h2, I2, n2, ?_, f1s.trans b2, b3, b4⟩
        rw [← b1]
        simp only [f_X11_elect_69, f_X11_elect_111, o10, o00, bh, isO, inR, ck_true, bind_some9, Nat.reduceLeDiff, Nat.reduceEqDiff, and_self, and_true, true_and, false_and, and_false, not_false_eq_true, not_true_eq_false, or_self, or_false, false_or, if_true, if_false, reduceIte, RF_o H, RF_1234 H, RO_642 H, RL_642 H, RF_1236 H, RO_644 H, RL_644 H, RF_1237 H, RO_645 H, RL_645 H, RF_1238 H, RO_646 H, RL_646 H, zR_pE, zT_pE, zL_pE, zn_pE, zE_pE, zI_pE, zR_pI, zT_pI, zL_pI, zn_pI, zE_pI, zI_pI, nx, gx, lx, ez, c, d1, zi_five, nr, gr, lr, eu, e1, zi_one]
theorem cnd_v (q : Shd) (h5 : shZ q ≤ 5) : ∀ r, r ≤ shZ q → cnd (shD (shV q)) r = cnd (shD q) r
  | 0, _ => rfl
  | r + 1, hr => by
    have ih := cnd_v q h5 r (by omega)
    rw [cnd_succ, cnd_succ, ih, vD_lt (by omega : r < shZ q)]
    rcases cnd_in (shD q) r (by omega) with z | ⟨b, z1, z2⟩
    · by_cases c : dkU (shD q r) = true
      · rw [if_pos ⟨c, Or.inl z⟩, if_pos ⟨c, Or.inl z⟩]
      · rw [if_neg (fun y => c y.1), if_neg (fun y => c y.1)]
    · rw [z2, zi_nat (by omega), vD_lt (by omega : b < shZ q)]
theorem alD_v {q : Shd} {l : Nat} (hl : l < shZ q) (N : Nat) (F : Nat → Flw) (O : List (Nat × Nat × Nat)) (Q T : Nat) : alD (shD (shV q)) l (shZ q) = shD (shV (shZ q, nI l, T, shAlike q l, N, F, O, Q)) := by
  funext x
  by_cases cx : x < shZ q
  · rw [show shD (shV (shZ q, nI l, T, shAlike q l, N, F, O, Q)) x = shAlike q l x from if_pos cx]
    unfold alD shAlike
    rw [vD_lt cx, vD_lt hl]
  · rw [show shD (shV (shZ q, nI l, T, shAlike q l, N, F, O, Q)) x = ([], false, -1, 0, (0, 0, 0, 0, 0, 0)) from if_neg cx]
    unfold alD
    rw [if_neg (fun z => cx z.1)]
    exact vD_ge cx
theorem tkAt_free {h : Hp} {w : Nat} {f : Flw} (t : tkAt h w f) (k : flK f = 0) : tkAt h w (flP f, flE f, flW f, tkFree (flT f)) := by
  unfold tkAt at t ⊢
  show zE h 660 w = (if wkP (flW f) = 0 then (if (0 : Int32) = 0 then 1 else 2) else 0) ∧ (wkP (flW f) = 0 → (zE h 661 w = (flT f).2.2.2.1 ∧ zE h 664 w = (flT f).2.2.1) ∧ ((0 : Int32) ≠ 0 → _))
  rw [if_pos rfl]
  rw [if_pos k] at t
  exact ⟨t.1, fun z => ⟨(t.2 z).1, fun y => absurd rfl y⟩⟩
theorem fw_los {h : Hp} {N s M : Nat} {EE : Nat → List Nat} {F : Nat → Flw} (q : fwAt h N s EE M F) (k : ∀ n, n < M → flK (F n) = 0) : fwAt h N s EE M (losF M F) := fun n hn => by
  rw [show losF M F n = (flP (F n), flE (F n), flW (F n), tkFree (flT (F n))) from if_pos hn]
  exact ⟨(q n hn).1, (q n hn).2.1, tkAt_free (q n hn).2.2 (k n hn)⟩
theorem w_elect {vs : Nat → List Prg} {now : Int32} {TX : List (Nat × Nat × Nat × Prg)} {B K s m : Nat} {KL : Nat → Int32 → Hp → Option Hp} {h : Hp} {q : Shd} {C : List Rec} (hs : s < 4) (R : RS vs now TX B K s h q C) (hl : shL q = -1) (hm : shMost q = true) (kl : KLok vs now TX B K s m KL) (hu : upsN (shZ q) (shD q) ≤ m + 1) :
    ∃ h1 E, f_X11_elect KL 616 (nI s) h = some h1 ∧ frx (fpS s (B + shQ q)) h h1 ∧ C <+: E ∧ RS vs now TX B K s h1 (if (shElect q).1 = false then (shElect q).2 else stl vs now (shElect1 vs now q)) E ∧ (shL (if (shElect q).1 = false then (shElect q).2 else stl vs now (shElect1 vs now q)) ≠ -1 → calm (if (shElect q).1 = false then (shElect q).2 else stl vs now (shElect1 vs now q))) := by
  obtain ⟨G, ⟨hI, hY⟩, I, EE, sd, mn, fw, ob⟩ := R
  obtain ⟨H, eN, enow, T, ⟨hB, hK⟩, hv⟩ := id G
  have hQ := q_bound hI hY hK
  have h5 := hI.1.1
  obtain ⟨⟨d1, d2, d3⟩, ⟨d4, d5, d6⟩, d7, d8, d9⟩ := id sd
  obtain ⟨bb1, bb2, bb3⟩ := hI.2.2.1
  obtain ⟨l, c1, c2, c3, c4, -, -⟩ := shElect_R (lgV_nil vs) (lgV_pre vs) (lgV_lead vs) hI.1 hm
  have hup : dkU (shD q l) = true := by
    obtain ⟨l2, y1, y2, y3, -⟩ := shCand_of h5 hm
    have : l2 = l := by
      rw [c1] at y1
      exact ((zi_eq (by omega) (by omega)).mp y1).symm
    rw [← this]; exact y3
  have eE := shElect_eq c1 (by omega)
  have nx : (nI s).toNatClampNeg = s := zi_nat (by omega)
  have gx : ¬ nI s < 0 := zi_neg (by omega)
  have lx : ¬ 4 ≤ s := by omega
  -- terms
  obtain ⟨-, P, Qm, ⟨hG, -⟩, hX, -⟩ := id hI.1
  have terms : ∀ x, x < shZ q → ∀ (k : Nat) (r : Rec), (dkL (shD q x))[k]? = some r → rcT r ≤ shT q := fun x hx k r hr => (lgX_at hG (hX x hx) hr).1
  have tlast : ∀ r, r < 5 → dkLast (shD (shV q) r) < 60000 := fun r hr => by
    by_cases c : r < shZ q
    · rw [vD_lt c]
      have := lgX_le (hX r c)
      show lgT (dkL (shD q r)) < 60000
      omega
    · rw [vD_ge c]; show 0 < 60000; omega
  have f1 : frx (fun a j => a = 646 ∧ j = s) h (pE h 646 s (nI (shT q + 1))) := frx_pE ⟨rfl, rfl⟩
  have e46 : zE (pE h 646 s (nI (shT q + 1))) 646 s = nI (shT q + 1) := by rw [zE_pE, if_pos ⟨rfl, rfl⟩]
  have d3 : zE h 646 s = nI (shT q) := d3
  have e0 : f_X11_elect KL 616 (nI s) h = f_X11_elect_14 KL fz 616 (nI s) (-1) 0 (pE h 646 s (nI (shT q + 1))) := by
    simp only [f_X11_elect, o10, o00, bh, isO, inR, ck_true, bind_some9, Nat.reduceLeDiff, Nat.reduceEqDiff, and_self, and_true, true_and, false_and, and_false, not_false_eq_true, not_true_eq_false, or_self, or_false, false_or, if_true, if_false, reduceIte, RF_o H, RF_1238 H, RO_646 H, RL_646 H, zR_pE, zT_pE, zL_pE, zn_pE, zE_pE, zI_pE, zR_pI, zT_pI, zL_pI, zn_pI, zE_pI, zI_pI, nx, gx, lx, d3, zi_one]
  generalize pE h 646 s (nI (shT q + 1)) = h1 at *
  have H1 := H.on f1
  have ds1 : dsAt h1 (B + shQ q) I s (shD (shV q)) := fun r hr => (d7 r hr).on f1 (fun a i _ => by omega) (fun a j z => by unfold dkS at z; omega)
  have ez1 : zE h1 644 s = nI (shZ q) := by rw [f1.2.2.2 644 _ (by omega)]; exact d1
  have e1 := w_elect_14 (KL := KL) H1 hs h5 (by omega : B + shQ q ≤ 60000) ez1 ds1 tlast (shZ q) 0 fz (by omega) (fz_big (by omega))
  rw [cnd_v q h5 (shZ q) (Nat.le_refl _), show cnd (shD q) (shZ q) = nI l from c1] at e1
  have e1 : f_X11_elect_14 KL fz 616 (nI s) (-1) (nI 0) h1 = f_X11_elect_69 KL fz 616 (nI s) (nI l) 0 h1 := e1
  have al0 : alD (shD (shV q)) l 0 = shD (shV q) := by funext x; unfold alD; rw [if_neg (by omega)]
  have lens5 : ∀ r, r < 5 → (dkL (shD (shV q) r)).length ≤ 8000 := fun r hr => by
    by_cases c : r < shZ q
    · rw [vD_lt c]; have := (bb2 r c).1; omega
    · rw [vD_ge c]; exact Nat.zero_le _
  obtain ⟨h2, I2, n2, a2, f2, ds2, uq2⟩ := w_elect_69 (KL := KL) (D := shD (shV q)) hs h5 c2 (by omega : B + shQ q ≤ 60000) d9 lens5 (shZ q) 0 fz h1 I H1 ez1 (by rw [al0]; exact ds1) (by rw [al0]; exact d8) (by omega) (fz_big (by omega))
  rw [alD_v c2 (shN q) (shF q) (shO q) (shQ q) (shT q + 1)] at ds2 uq2
  have H2 := H1.on f2
  have f12 : frx (fpS s (B + shQ q)) h h2 := (f1.mono (fun a j z => Or.inl (Or.inr (Or.inr (Or.inl ⟨by omega, z.2⟩))))).trans (f2.mono (fun a j z => Or.inl (dsS_sh s a j z)))
  have noD : ∀ a j, (a < 638 ∨ 643 < a) → ¬ dsS s a j := fun a j g z => by obtain ⟨r, -, z⟩ := z; unfold dkS at z; omega
  have en2 : zI h2 1224 616 = nI (B + shQ q) := by rw [f2.2.2.1 1224 (noD _ _ (by omega)), f1.2.2.1 1224 (by omega)]; exact eN
  have ez2 : zE h2 644 s = nI (shZ q) := by rw [f2.2.2.2 644 _ (noD _ _ (by omega))]; exact ez1
  have et2 : zE h2 646 s = nI (shT q + 1) := by rw [f2.2.2.2 646 _ (noD _ _ (by omega))]; exact e46
  have el2 : zE h2 645 s = -1 := by rw [f2.2.2.2 645 _ (noD _ _ (by omega)), f1.2.2.2 645 _ (by omega), d2]; exact hl
  have eal : shAlike q l l = shD q l := by unfold shAlike; rw [if_neg (by omega)]
  have aup : ∀ x, x < shZ q → dkU (shAlike q l x) = true → dkL (shAlike q l x) = dkL (shD q l) := fun x hx u => by
    by_cases c : x = l
    · rw [c, eal]
    · cases cu : dkU (shD q x) with
      | false =>
        have := (shAlike_dn q l x).1.2.2 cu
        rw [u] at this; cases this
      | true =>
        have e3 : shAlike q l x = dkAlike (shD q x) (shD q l) := by unfold shAlike; rw [if_pos ⟨hx, c, cu⟩]
        rw [e3] at u ⊢
        obtain ⟨j, -, -, ha⟩ := dkAlike_or (shD q x) (shD q l)
        exact ha u
  have aterm : ∀ x, x < shZ q → ∀ (k : Nat) (r : Rec), (dkL (shAlike q l x))[k]? = some r → rcT r ≠ shT q + 1 := fun x hx k r hr => by
    have : rcT r ≤ shT q := by
      by_cases c : x ≠ l ∧ dkU (shD q x) = true
      · have e3 : shAlike q l x = dkAlike (shD q x) (shD q l) := by unfold shAlike; rw [if_pos ⟨hx, c⟩]
        rw [e3] at hr
        obtain ⟨j, -, z, -⟩ := dkAlike_or (shD q x) (shD q l)
        rw [z, List.getElem?_take] at hr
        split at hr
        · exact terms l c2 k r hr
        · cases hr
      · have e3 : shAlike q l x = shD q x := by unfold shAlike; rw [if_neg (fun z => c z.2)]
        rw [e3] at hr
        exact terms x hx k r hr
    omega
  have alen := shAlike_len c2 (fun x hx => (bb2 x hx).1)
  obtain ⟨h0', h3, I3, r3, D3, g1, g2, g3, g4, g5, g6, g7, g8, g9⟩ := w_spr (q := (shZ q, nI l, shT q + 1, shAlike q l, shN q, shF q, shO q, shQ q)) (l := l) H2 hs en2 (by omega) ez2 ds2 uq2 h5 rfl c2 (by show dkU (shAlike q l l) = true; rw [eal]; exact hup) (fun x hx u => by
    show dkL (shAlike q l x) = dkL (shAlike q l l)
    rw [eal]; exact aup x hx u) (fun x hx => ⟨by have := alen x hx; show (dkL (shAlike q l x)).length ≤ 8000; omega, (shAlike_dn q l x).2 (bb2 x hx).2.1⟩) (fun x hx r hr => aterm x hx _ r hr) 13 0 (nI l) 0 0
  rw [← eE] at g9
  have g1 : f_X11_newRecord 616 0 13 (nI (shT q + 1)) (nI l) 0 0 h2 = some (nI (B + shQ q), h0') := g1
  have H3 : RF h3 := H2.on g4
  have fall : frx (fpS s (B + shQ q)) h h3 := f12.trans (g4.mono (dwS_fp s _))
  have e69 : f_X11_elect_69 KL (n2 + 1) 616 (nI s) (nI l) (nI (shZ q)) h2 = (if r3 = 0 then some h3 else (f_X11_build KL 616 (nI s) (pE h3 645 s (nI l))).bind (fun z => some z)) := by
    have c : nI (shZ q) ≤ nI (shZ q) := (zi_le (by omega) (by omega)).mpr (Nat.le_refl _)
    have H := H2
    by_cases c0 : r3 = 0
    · rw [if_pos c0]
      rw [c0] at g3
      simp only [f_X11_elect_69, o10, o00, bh, isO, inR, ck_true, bind_some9, Nat.reduceLeDiff, Nat.reduceEqDiff, and_self, and_true, true_and, false_and, and_false, not_false_eq_true, not_true_eq_false, or_self, or_false, false_or, if_true, if_false, reduceIte, RF_o H, RF_1234 H, RO_642 H, RL_642 H, RF_1236 H, RO_644 H, RL_644 H, RF_1237 H, RO_645 H, RL_645 H, RF_1238 H, RO_646 H, RL_646 H, zR_pE, zT_pE, zL_pE, zn_pE, zE_pE, zI_pE, zR_pI, zT_pI, zL_pI, zn_pI, zE_pI, zI_pI, RF_o g2, nx, gx, lx, ez2, c, et2, g1, g3]
    · rw [if_neg c0]
      simp only [f_X11_elect_69, o10, o00, bh, isO, inR, ck_true, bind_some9, Nat.reduceLeDiff, Nat.reduceEqDiff, and_self, and_true, true_and, false_and, and_false, not_false_eq_true, not_true_eq_false, or_self, or_false, false_or, if_true, if_false, reduceIte, RF_o H, RF_1234 H, RO_642 H, RL_642 H, RF_1236 H, RO_644 H, RL_644 H, RF_1237 H, RO_645 H, RL_645 H, RF_1238 H, RO_646 H, RL_646 H, zR_pE, zT_pE, zL_pE, zn_pE, zE_pE, zI_pE, zR_pI, zT_pI, zL_pI, zn_pI, zE_pI, zI_pI, RF_o g2, RF_o H3, RF_1237 H3, RO_645 H3, RL_645 H3, nx, gx, lx, ez2, c, et2, g1, g3, c0]
  have eall : f_X11_elect KL 616 (nI s) h = (if r3 = 0 then some h3 else (f_X11_build KL 616 (nI s) (pE h3 645 s (nI l))).bind (fun z => some z)) := by
    rw [e0, ← e69, ← a2]
    exact (congrArg (fun z => f_X11_elect_14 KL fz 616 (nI s) (-1) z h1) zi_zero).trans (e1.trans (congrArg (fun z => f_X11_elect_69 KL fz 616 (nI s) (nI l) z h1) zi_zero))
  -- rows behind the record
  have dwn : ∀ a j, (a < 638 ∨ 643 < a) → a < 633 ∨ 637 < a → ¬ (a = 616 ∧ j = 1224) → ¬ dwS s (B + shQ q) a j := fun a j g y w z => by
    rcases z with z | ⟨r, -, z⟩
    · unfold nrS at z; omega
    · unfold dkS at z; omega
  have fh3 : ∀ a j, 647 ≤ a → zE h3 a j = zE h a j := fun a j g => by
    rw [g4.2.2.2 a j (dwn a j (by omega) (by omega) (by omega)), f2.2.2.2 a j (noD _ _ (by omega)), f1.2.2.2 a j (by omega)]
  have fS : frx (fun a j => (a = 646 ∧ j = s) ∨ dwS s (B + shQ q) a j) h h3 := ((f1.mono (fun a j z => Or.inl z)).trans (f2.mono (fun a j z => Or.inr (Or.inr z)))).trans (g4.mono (fun a j z => Or.inr z))
  have fw3 : fwAt h3 (B + shQ q + 1) s EE (shN q) (shF q) := fun x hx => by
    obtain ⟨y1, y2, y3⟩ := (fw.on (N16 hI) fS (fun a i hi => by
      rcases dwS_rec (s := s) a i hi with z | z
      · by_cases ca : a < 633 ∨ 637 < a
        · exact Or.inr ca
        · exact Or.inl (fun y => y.elim (fun w => by omega) z)
      · exact Or.inr z) (fun a j g _ z => z.elim (fun w => by omega) (dwS_row (by omega))) (fun a j g z => z.elim (fun w => by omega) (dwS_row (by omega)))) x hx
    exact ⟨y1.more (Nat.le_succ _), y2, y3⟩
  have mn3 : mnAt h3 s (shN q) := ⟨⟨by rw [fh3 _ _ (by omega)]; exact mn.1.1, mn.1.2⟩, fun n g1 g2 => by rw [fh3 _ _ (by omega)]; exact mn.2 n g1 g2⟩
  have ob3 : obAt h3 s (shO q) := ⟨by rw [fh3 _ _ (by omega)]; exact ob.1, ob.2.1, fun k m hk => by rw [fh3 _ _ (by omega), fh3 _ _ (by omega), fh3 _ _ (by omega)]; exact ob.2.2 k m hk⟩
  have ez3 : zE h3 644 s = nI (shZ q) := by rw [g4.2.2.2 644 _ (dwn _ _ (by omega) (by omega) (by omega))]; exact ez2
  have et3 : zE h3 646 s = nI (shT q + 1) := by rw [g4.2.2.2 646 _ (dwn _ _ (by omega) (by omega) (by omega))]; exact et2
  have el3 : zE h3 645 s = -1 := by rw [g4.2.2.2 645 _ (dwn _ _ (by omega) (by omega) (by omega))]; exact el2
  have sIE := shElect_I hI hl hm
  rcases g9 with ⟨ct, r1, ecm⟩ | ⟨cf, r0, ecm⟩
  · rw [if_neg (by rw [ct]; decide)]
    rw [if_neg (by rw [r1]; decide)] at eall
    obtain ⟨E, bI, bG, bL⟩ := built_I (vs := vs) now hI hl hm ct
    have same := shBuild_same vs now (shElect q).2
    have qe : shQ (shBuild vs now (shElect q).2) = shQ q + 1 := by rw [same.2.2.2.2, ecm]; rfl
    have zB : shZ (shBuild vs now (shElect q).2) = shZ q := by rw [same.1, ecm]; rfl
    have lB : shL (shElect q).2 = nI l := by rw [ecm]; rfl
    have hEL : E = dkL (shD (shElect q).2 l) := by
      obtain ⟨l9, w, hC⟩ := bI.w bL
      have : l9 = l := by
        have := w.2.1
        rw [same.2.1, lB] at this
        exact ((zi_eq (by omega) (by have := w.1; omega)).mp this).symm
      rw [hC, this, same.2.2.2.1]
    have f4 : frx (fun a j => a = 645 ∧ j = s) h3 (pE h3 645 s (nI l)) := frx_pE ⟨rfl, rfl⟩
    have f4p : frx (fpS s (B + shQ q)) h (pE h3 645 s (nI l)) := fall.trans (f4.mono (fun a j z => Or.inl (Or.inr (Or.inr (Or.inl ⟨by omega, z.2⟩)))))
    have eD : shD (shV (shElect q).2) = shD (shV (shSetD (shTried (shZ q, nI l, shT q + 1, shAlike q l, shN q, shF q, shO q, shQ q)) D3)) := by rw [ecm]
    have sd4 : sdAt (pE h3 645 s (nI l)) (B + shQ q + 1) I3 s (shV (shElect q).2) := by
      refine ⟨⟨?_, ?_, ?_⟩, ⟨?_, ?_, ?_⟩, ?_, by rw [eD]; exact g7, fun r hr => ?_⟩
      · rw [zE_pE, if_neg (by omega), ez3, ecm]; rfl
      · rw [zE_pE, if_pos ⟨rfl, rfl⟩, ecm]; rfl
      · rw [zE_pE, if_neg (by omega), et3, ecm]; rfl
      · rw [ecm]; exact d4
      · rw [ecm]; exact h5
      · rw [ecm]; show shT q + 1 < 60000; omega
      · rw [eD]
        exact fun r hr => (g6 r hr).on f4 (fun a i _ => by omega) (fun a j z => by unfold dkS at z; omega)
      · rw [eD]
        by_cases cr : r < shZ q
        · rw [show shD (shV (shSetD (shTried (shZ q, nI l, shT q + 1, shAlike q l, shN q, shF q, shO q, shQ q)) D3)) r = D3 r from if_pos cr]; exact g8 r cr
        · rw [show shD (shV (shSetD (shTried (shZ q, nI l, shT q + 1, shAlike q l, shN q, shF q, shO q, shQ q)) D3)) r = ([], false, -1, 0, (0, 0, 0, 0, 0, 0)) from if_neg cr]
          intro z; cases z
    have G4 : RG vs now TX B K (pE h3 645 s (nI l)) (B + shQ q + 1) := G.on f4p (by rw [zI_pE]; exact g5)
    have hE8 : E.length < 8192 := by
      have hq9 := q_bound bI (bG.y hY) hK
      obtain ⟨l9, w, hC⟩ := bI.w bL
      have := (bI.2.2.1.2.1 l9 w.1).1
      rw [hC]; omega
    obtain ⟨h5', EE5, b1, b2, b3, b4⟩ := w_build_1 (KL := KL) (now := now) (TX := TX) G4.1 G4.2.2.1 G4.2.2.2.1 hv hs (by omega : B + shQ q + 1 ≤ 60000) sd4 (by rw [ecm]; exact c2) lB hEL.symm bI.v hE8
    have en5 : zI h5' 1224 616 = nI (B + shQ q + 1) := by rw [b2.2.2.1 1224 (by unfold blS clS rdS gbS; omega)]; exact G4.2.1
    have R5 : RS vs now TX B K s h5' (shBuild vs now (shElect q).2) E := by
      refine ⟨?_, ⟨bI, bG.y hY⟩, I3, EE5, ?_⟩
      · rw [qe]; exact G4.on (b2.mono (blS_fp s (B + shQ q))) en5
      · rw [qe]; exact b3
    have bU := bG.2.2.2.2.1
    obtain ⟨h6, F, k1, k2, k3, k4, k5⟩ := w_build_260 hs kl (shN (shBuild vs now (shElect q).2)) 0 fz h5' _ E R5 bL (by omega) (by rw [zB]; omega) (fun x _ hx => b4 x hx) (fun x hx => absurd hx (Nat.not_lt_zero _)) (fz_big (by have := N16 bI; omega))
    have e1' : shElect1 vs now q = shAll now (shN (shBuild vs now (shElect q).2)) 0 (shBuild vs now (shElect q).2) := by
      show (if (shElect q).1 = false then _ else _) = _
      rw [if_neg (by rw [ct]; decide)]
    rw [e1']
    refine ⟨h6, F, ?_, (f4p.trans (b2.mono (blS_fp s _))).trans (k2.mono (fpS_le (by rw [qe]; omega))), bG.1.trans k3, k4, k5⟩
    rw [eall, b1]
    have k1 : f_X11_build_260 KL fz 616 (nI s) 1 0 h5' = some h6 := k1
    rw [k1]
    rfl
  · rw [if_pos cf]
    rw [if_pos r0] at eall
    obtain ⟨fI, fG, fL, fU⟩ := sIE.2 cf
    have qe : shQ (shElect q).2 = shQ q + 1 := by rw [ecm]; rfl
    have k0 : ∀ n, n < shN q → flK (shF q n) = 0 := fun n hn => (hI.2.2.2 n hn).resolve_right (fun z => z.2 hl)
    refine ⟨h3, C, eall, fall, List.prefix_refl _, ⟨?_, ⟨fI, fG.y hY⟩, I3, EE, ?_⟩, fun z => absurd fL z⟩
    · rw [qe]; exact G.on fall g5
    · rw [qe]
      have eD : shD (shV (shElect q).2) = shD (shV (shSetD (shTried (shZ q, nI l, shT q + 1, shAlike q l, shN q, shF q, shO q, shQ q)) D3)) := by rw [ecm]; rfl
      refine ⟨⟨⟨?_, ?_, ?_⟩, ⟨?_, ?_, ?_⟩, by rw [eD]; exact g6, by rw [eD]; exact g7, fun r hr => ?_⟩, ?_, ?_, ?_⟩
      · rw [ez3, ecm]; rfl
      · rw [el3, ecm]; rfl
      · rw [et3, ecm]; rfl
      · rw [ecm]; exact d4
      · rw [ecm]; exact h5
      · rw [ecm]; show shT q + 1 < 60000; omega
      · rw [eD]
        by_cases cr : r < shZ q
        · rw [show shD (shV (shSetD (shTried (shZ q, nI l, shT q + 1, shAlike q l, shN q, shF q, shO q, shQ q)) D3)) r = D3 r from if_pos cr]; exact g8 r cr
        · rw [show shD (shV (shSetD (shTried (shZ q, nI l, shT q + 1, shAlike q l, shN q, shF q, shO q, shQ q)) D3)) r = ([], false, -1, 0, (0, 0, 0, 0, 0, 0)) from if_neg cr]
          intro z; cases z
      · rw [ecm]; exact mn3
      · rw [ecm]
        exact fw_los fw3 k0
      · rw [ecm]; exact ob3
/-! THE LEADER IS LOST -/
theorem w_ups_sd {h : Hp} (H : RF h) {N s : Nat} {I : Nat → List Nat} {q : Shd} (hs : s < 4) (sd : sdAt h N I s (shV q)) : f_X11_ups 616 (nI s) h = some (nI (shUps q), h) := by
  obtain ⟨⟨d1, -, -⟩, ⟨-, d5, -⟩, d7, -⟩ := sd
  have d1 : zE h 644 s = nI (shZ q) := d1
  have d5 : shZ q ≤ 5 := d5
  rw [w_ups H hs d1 d5 (fun r => dkU (shD q r)) (fun r hr => by rw [(d7 r (by omega)).1.1, vD_lt hr])]
  rfl
theorem w_l46 {KL : Nat → Int32 → Hp → Option Hp} {h : Hp} (H : RF h) {s U Z fuel : Nat} (hs : s < 4) (hZ : Z ≤ 5) (hU : U ≤ 5) (e45 : zE h 645 s = -1) (eu : f_X11_ups 616 (nI s) h = some (nI U, h)) (e44 : zE h 644 s = nI Z) : f_X11_loses_46 KL (fuel + 1) 616 (nI s) h = if 2 * U ≤ Z then some h else (f_X11_elect KL 616 (nI s) h).bind (fun z => f_X11_loses_46 KL fuel 616 (nI s) z) := by
  have nx : (nI s).toNatClampNeg = s := zi_nat (by omega)
  have gx : ¬ nI s < 0 := zi_neg (by omega)
  have lx : ¬ 4 ≤ s := by omega
  have e45 : zE h 645 (nI s).toNatClampNeg = -1 := by rw [nx]; exact e45
  have e44 : zE h 644 (nI s).toNatClampNeg = nI Z := by rw [nx]; exact e44
  have q2 : (2 : Int32) * nI U ≤ nI Z ↔ 2 * U ≤ Z := by
    rw [show (2 : Int32) = nI 2 from rfl, zi_mul]
    exact zi_le (by omega) (by omega)
  conv => lhs; unfold f_X11_loses_46
  rw [ck_yes (RF_o H), RF_1237 H, ck_yes (RO_645 H), RL_645 H, ck_yes (zi_in (by omega : s < 4) (by omega)), if_pos e45, eu, bind_some9, ck_yes (RF_o H)]
  show ck (isO h (zR h 1236 616) 22) (ck (inR (nI s) (zL h (zR h 1236 616))) (if 2 * nI U ≤ zE h (zR h 1236 616) (nI s).toNatClampNeg then some h else _)) = _
  rw [RF_1236 H, ck_yes (RO_644 H), RL_644 H, ck_yes (zi_in (by omega : s < 4) (by omega))]
  by_cases c : 2 * U ≤ Z
  · rw [if_pos c, if_pos (by rw [e44]; exact q2.mpr c)]
  · rw [if_neg c, if_neg (fun z => by rw [e44] at z; exact c (q2.mp z))]
theorem w_l46w {KL : Nat → Int32 → Hp → Option Hp} {h : Hp} (H : RF h) {s fuel : Nat} (hs : s < 4) (e45 : zE h 645 s ≠ -1) : f_X11_loses_46 KL (fuel + 1) 616 (nI s) h = some h := by
  have nx : (nI s).toNatClampNeg = s := zi_nat (by omega)
  have e45 : ¬ zE h 645 (nI s).toNatClampNeg = -1 := by rw [nx]; exact e45
  conv => lhs; unfold f_X11_loses_46
  rw [ck_yes (RF_o H), RF_1237 H, ck_yes (RO_645 H), RL_645 H, ck_yes (zi_in (by omega : s < 4) (by omega)), if_neg e45]
theorem w_loses_46 {vs : Nat → List Prg} {now : Int32} {TX : List (Nat × Nat × Nat × Prg)} {B K s m : Nat} {KL : Nat → Int32 → Hp → Option Hp} (hs : s < 4) (kl : ∀ m1, m = m1 + 1 → KLok vs now TX B K s m1 KL) : ∀ (i fuel : Nat) (h : Hp) (q : Shd) (C : List Rec), RS vs now TX B K s h q C → (shL q ≠ -1 → calm q) → upsN (shZ q) (shD q) ≤ m → upsN (shZ q) (shD q) < i → i + 1 < fuel →
    ∃ h1 E, f_X11_loses_46 KL fuel 616 (nI s) h = some h1 ∧ frx (fpS s (B + shQ q)) h h1 ∧ C <+: E ∧ RS vs now TX B K s h1 (stl vs now q) E ∧ (shL (stl vs now q) ≠ -1 → calm (stl vs now q))
  | i, 0, h, q, C, _, _, _, _, hf => absurd hf (Nat.not_lt_zero _)
  | 0, fuel + 1, h, q, C, _, _, _, hi, _ => absurd hi (Nat.not_lt_zero _)
  | i + 1, fuel + 1, h, q, C, R, hc, hm, hi, hf => by
    obtain ⟨G, ⟨hI, hY⟩, I, EE, sd, mn, fw, ob⟩ := id R
    have H := G.1
    have h5 := hI.1.1
    have nx : (nI s).toNatClampNeg = s := zi_nat (by omega)
    have gx : ¬ nI s < 0 := zi_neg (by omega)
    have lx : ¬ 4 ≤ s := by omega
    have e45 : zE h 645 s = shL q := sd.1.2.1
    have e44 : zE h 644 s = nI (shZ q) := sd.1.1
    by_cases cl : shL q = -1
    · have eu := w_ups_sd H hs sd
      have un := shUps_N q
      have ule := upsN_le (shZ q) (shD q)
      have em : shMost q = true ↔ shZ q < 2 * shUps q := by unfold shMost; exact decide_eq_true_iff
      rw [cl] at e45
      have step := w_l46 (KL := KL) (fuel := fuel) H hs h5 (by omega) e45 eu e44
      by_cases cm : shMost q = true
      · rw [if_neg (by have := em.mp cm; omega)] at step
        have up1 : 1 ≤ upsN (shZ q) (shD q) := by
          have := em.mp cm
          have := hI.2.2.1.1
          omega
        obtain ⟨m1, rfl⟩ : ∃ m1, m = m1 + 1 := ⟨m - 1, by omega⟩
        obtain ⟨h1, E, a1, a2, a3, a4, a5⟩ := w_elect hs R cl cm (kl m1 rfl) hm
        rw [a1, bind_some9] at step
        have eS := stl_on now hI cl cm
        by_cases ct : (shElect q).1 = false
        · rw [if_pos ct] at a4 a5
          obtain ⟨fI, fG, fL, fU⟩ := (shElect_I hI cl cm).2 ct
          have fz1 := fG.2.2.1
          have e1 : shElect1 vs now q = (shElect q).2 := by
            show (if (shElect q).1 = false then _ else _) = _
            rw [if_pos ct]
          obtain ⟨h2, F, b1, b2, b3, b4, b5⟩ := w_loses_46 hs kl i fuel h1 (shElect q).2 E a4 a5 (by rw [fz1]; omega) (by rw [fz1]; omega) (by omega)
          rw [eS, e1]
          exact ⟨h2, F, by rw [step, b1], a2.trans (b2.mono (fpS_le (by have := fG.2.2.2.1; omega))), a3.trans b3, b4, b5⟩
        · rw [if_neg ct] at a4 a5
          rw [eS]
          generalize hu : stl vs now (shElect1 vs now q) = u at *
          -- settled: the loop ends
          obtain ⟨E1, s1, s2, s3, s4⟩ := shElect1_I (vs := vs) now hI cl cm
          obtain ⟨F1, t1, t2⟩ := stl_I now s1 s3
          rw [hu] at t1
          obtain ⟨G1, -, I1, EE1, sd1, -⟩ := id a4
          have H1 := G1.1
          obtain ⟨fuel, rfl⟩ : ∃ j, fuel = j + 1 := ⟨fuel - 1, by omega⟩
          have e451 : zE h1 645 s = shL u := sd1.1.2.1
          have e441 : zE h1 644 s = nI (shZ u) := sd1.1.1
          refine ⟨h1, E, ?_, a2, a3, a4, a5⟩
          rw [step]
          by_cases cw : shL u = -1
          · have nm := t1.2.2 cw
            have eu1 := w_ups_sd H1 hs sd1
            have h51 := t1.1.1.1
            have un1 := shUps_N u
            have ule1 := upsN_le (shZ u) (shD u)
            have le : 2 * shUps u ≤ shZ u := by
              unfold shMost at nm
              have := of_decide_eq_false nm
              omega
            rw [cw] at e451
            rw [w_l46 (KL := KL) (fuel := fuel) H1 hs h51 (by omega) e451 eu1 e441, if_pos le]
          · exact w_l46w H1 hs (by rw [e451]; exact cw)
      · have cm : shMost q = false := by
          cases hz : shMost q with
          | false => rfl
          | true => exact absurd hz cm
        have nm : ¬ shZ q < 2 * shUps q := fun z => by rw [em.mpr z] at cm; cases cm
        rw [if_pos (by omega)] at step
        rw [stl_off vs now (Or.inr cm)]
        exact ⟨h, C, step, frx.rf h, List.prefix_refl _, R, hc⟩
    · rw [stl_off vs now (Or.inl cl)]
      refine ⟨h, C, ?_, frx.rf h, List.prefix_refl _, R, hc⟩
      exact w_l46w H hs (by rw [e45]; exact cl)
/-- leases end -/
theorem w_loses_12 {KL : Nat → Int32 → Hp → Option Hp} {s : Nat} (hs : s < 4) : ∀ (m j fuel : Nat) (h : Hp), RF h → j + m = 16 → m < fuel → ∃ h1, f_X11_loses_12 KL fuel 616 (nI s) (nI (16 * s + j)) h = f_X11_loses_46 KL fz 616 (nI s) h1 ∧ frx (fun a i => a = 660 ∧ 16 * s + j ≤ i ∧ i < 16 * s + 16) h h1 ∧ ∀ n, j ≤ n → n < 16 → zE h1 660 (16 * s + n) = if zE h 660 (16 * s + n) = 2 then 1 else zE h 660 (16 * s + n)
  | m, j, 0, h, _, _, hf => absurd hf (Nat.not_lt_zero _)
  | 0, j, fuel + 1, h, H, hj, hf => by
    have c : (16 : Int32) * nI s + 16 ≤ nI (16 * s + j) := by
      rw [show (16 : Int32) = nI 16 from rfl, zi_mul, zi_add]
      exact (zi_le (by omega) (by omega)).mpr (by omega)
    refine ⟨h, ?_, frx.rf h, fun n h1 h2 => by omega⟩
    unfold f_X11_loses_12
    rw [if_pos c]
  | m + 1, j, fuel + 1, h, H, hj, hf => by
    have c : ¬ (16 : Int32) * nI s + 16 ≤ nI (16 * s + j) := by
      rw [show (16 : Int32) = nI 16 from rfl, zi_mul, zi_add]
      exact zi_le0 (by omega) (by omega) (by omega)
    have nw : (nI (16 * s + j)).toNatClampNeg = 16 * s + j := zi_nat (by omega)
    have gw : ¬ nI (16 * s + j) < 0 := zi_neg (by omega)
    have lw : ¬ 64 ≤ 16 * s + j := by omega
    have e1 : nI (16 * s + j) + 1 = nI (16 * s + (j + 1)) := zi_add _ 1
    by_cases c2 : zE h 660 (16 * s + j) = 2
    · have f1 : frx (fun a i => a = 660 ∧ 16 * s + j ≤ i ∧ i < 16 * s + 16) h (pE h 660 (16 * s + j) 1) := frx_pE ⟨rfl, by omega, by omega⟩
      obtain ⟨h1, a1, a2, a3⟩ := w_loses_12 (KL := KL) hs m (j + 1) fuel _ (H.on f1) (by omega) (by omega)
      refine ⟨h1, ?_, f1.trans (a2.mono (fun a i z => ⟨z.1, by omega, z.2.2⟩)), fun n g1 g2 => ?_⟩
      · rw [← a1]
        have d := eq_true c2
        simp only [f_X11_loses_12, f_X11_loses_40, o10, o00, bh, isO, inR, ck_true, bind_some9, Nat.reduceLeDiff, Nat.reduceEqDiff, and_self, and_true, true_and, false_and, and_false, not_false_eq_true, not_true_eq_false, or_self, or_false, false_or, if_true, if_false, reduceIte, RF_o H, RF_1252 H, RO_660 H, RL_660 H, zR_pE, zT_pE, zL_pE, zn_pE, zE_pE, zI_pE, zR_pI, zT_pI, zL_pI, zn_pI, zE_pI, zI_pI, c, nw, gw, lw, d, e1]
      · by_cases cn : n = j
        · rw [cn, a2.2.2.2 660 _ (by omega), zE_pE, if_pos ⟨rfl, rfl⟩, if_pos c2]
        · have e : zE (pE h 660 (16 * s + j) 1) 660 (16 * s + n) = zE h 660 (16 * s + n) := by rw [zE_pE, if_neg (by omega)]
          rw [a3 n (by omega) g2, e]
    · obtain ⟨h1, a1, a2, a3⟩ := w_loses_12 (KL := KL) hs m (j + 1) fuel h H (by omega) (by omega)
      refine ⟨h1, ?_, a2.mono (fun a i z => ⟨z.1, by omega, z.2.2⟩), fun n g1 g2 => ?_⟩
      · rw [← a1]
        have d := eq_false c2
        simp only [f_X11_loses_12, f_X11_loses_40, o10, o00, bh, isO, inR, ck_true, bind_some9, Nat.reduceLeDiff, Nat.reduceEqDiff, and_self, and_true, true_and, false_and, and_false, not_false_eq_true, not_true_eq_false, or_self, or_false, false_or, if_true, if_false, reduceIte, RF_o H, RF_1252 H, RO_660 H, RL_660 H, zR_pE, zT_pE, zL_pE, zn_pE, zE_pE, zI_pE, zR_pI, zT_pI, zL_pI, zn_pI, zE_pI, zI_pI, c, nw, gw, lw, d, e1]
      · by_cases cn : n = j
        · rw [cn, a2.2.2.2 660 _ (by omega), if_neg c2]
        · exact a3 n (by omega) g2
theorem w_loses {vs : Nat → List Prg} {now : Int32} {TX : List (Nat × Nat × Nat × Prg)} {B K s m : Nat} {KL : Nat → Int32 → Hp → Option Hp} (hs : s < 4) (kl : ∀ m1, m = m1 + 1 → KLok vs now TX B K s m1 KL) : KLok vs now TX B K s m (f_X11_loses KL) := fun h q C R => by
  obtain ⟨G, ⟨hI, hY⟩, hm, I, EE, sd, mn, fw, ob⟩ := R
  have H := G.1
  have nx : (nI s).toNatClampNeg = s := zi_nat (by omega)
  have gx : ¬ nI s < 0 := zi_neg (by omega)
  have lx : ¬ 4 ≤ s := by omega
  have f0 : frx (fun a j => a = 645 ∧ j = s) h (pE h 645 s (-1)) := frx_pE ⟨rfl, rfl⟩
  have e45 : zE (pE h 645 s (-1)) 645 s = -1 := by rw [zE_pE, if_pos ⟨rfl, rfl⟩]
  have m16 : (16 : Int32) * nI s = nI (16 * s + 0) := zi_mul 16 s
  have e0 : f_X11_loses KL 616 (nI s) h = f_X11_loses_12 KL fz 616 (nI s) (nI (16 * s + 0)) (pE h 645 s (-1)) := by
    unfold f_X11_loses
    rw [ck_yes (RF_o H), RF_1237 H, ck_yes (RO_645 H), RL_645 H, ck_yes (zi_in (by omega : s < 4) (by omega)), nx]
    unfold bh
    rw [m16]
  generalize pE h 645 s (-1) = h1 at *
  obtain ⟨h2, a1, f2, a3⟩ := w_loses_12 (KL := KL) hs 16 0 fz h1 (H.on f0) (by omega) (fz_big (by omega))
  have fS : frx (fun a j => (a = 645 ∧ j = s) ∨ (a = 660 ∧ j / 16 = s)) h h2 := (f0.mono (fun a j z => Or.inl z)).trans (f2.mono (fun a j z => Or.inr ⟨z.1, by omega⟩))
  have fp : frx (fpS s (B + shQ q)) h h2 := fS.mono (fun a j z => z.elim (fun z => Or.inl (Or.inr (Or.inr (Or.inl ⟨by omega, z.2⟩)))) (fun z => Or.inl (Or.inr (Or.inr (Or.inr (Or.inr (Or.inl ⟨by omega, z.2⟩)))))))
  have hN16 : shN q ≤ 16 := mn.1.2
  have R2 : RS vs now TX B K s h2 (shLose q) C := by
    refine ⟨G.on fp (by rw [fS.2.2.1 1224 (by omega)]; exact G.2.1), ⟨hI, hY⟩, I, EE, ?_, ?_, ?_, ?_⟩
    · obtain ⟨⟨d1, d2, d3⟩, d4, d5, d6⟩ := sd
      refine ⟨⟨?_, ?_, ?_⟩, d4, fun r hr => (d5 r hr).on fS (fun a i _ => by omega) (fun a j z => by unfold dkS at z; omega), d6⟩
      · rw [fS.2.2.2 644 _ (by omega)]; exact d1
      · rw [f2.2.2.2 645 _ (by omega)]; exact e45
      · rw [fS.2.2.2 646 _ (by omega)]; exact d3
    · refine ⟨⟨by rw [fS.2.2.2 647 _ (by omega)]; exact mn.1.1, hN16⟩, fun n g1 g2 => ?_⟩
      have g1 : shN q ≤ n := g1
      rw [a3 n (by omega) g2, f0.2.2.2 660 _ (by omega), mn.2 n g1 g2, if_neg (by decide)]
    · intro n hn
      have hn : n < shN q := hn
      obtain ⟨y1, y2, y3⟩ := fw n hn
      show evsAt h2 _ (16 * s + n) (EE n) (flE (losF (shN q) (shF q) n)) ∧ rfF h2 (16 * s + n) (flE (losF (shN q) (shF q) n)) (flP (losF (shN q) (shF q) n)) ∧ tkAt h2 (16 * s + n) (losF (shN q) (shF q) n)
      rw [show losF (shN q) (shF q) n = (flP (shF q n), flE (shF q n), flW (shF q n), tkFree (flT (shF q n))) from if_pos hn]
      refine ⟨y1.on fS (fun a i _ => by omega) (fun a j z => by unfold evS at z; omega), y2.on fS (fun a g => by omega) (fun v hv => by omega), ?_⟩
      obtain ⟨t1, t2⟩ := y3
      have v : zE h2 660 (16 * s + n) = if wkP (flW (shF q n)) = 0 then 1 else 0 := by
        rw [a3 n (by omega) (by omega), f0.2.2.2 660 _ (by omega), t1]
        by_cases c0 : wkP (flW (shF q n)) = 0
        · rw [if_pos c0, if_pos c0]
          by_cases ck : flK (shF q n) = 0
          · rw [if_pos ck, if_neg (by decide)]
          · rw [if_neg ck, if_pos rfl]
        · rw [if_neg c0, if_neg c0, if_neg (by decide)]
      unfold tkAt
      show zE h2 660 (16 * s + n) = (if wkP (flW (shF q n)) = 0 then (if (0 : Int32) = 0 then 1 else 2) else 0) ∧ (wkP (flW (shF q n)) = 0 → (zE h2 661 (16 * s + n) = (flT (shF q n)).2.2.2.1 ∧ zE h2 664 (16 * s + n) = (flT (shF q n)).2.2.1) ∧ ((0 : Int32) ≠ 0 → _))
      rw [if_pos rfl]
      refine ⟨v, fun z => ⟨?_, fun y => absurd rfl y⟩⟩
      rw [fS.2.2.2 661 _ (by omega), fS.2.2.2 664 _ (by omega)]
      exact (t2 z).1
    · exact ob.on fS (by omega) (fun a k g1 g2 => by omega)
  obtain ⟨h3, E, b1, b2, b3, b4, b5⟩ := w_loses_46 hs kl 6 fz h2 (shLose q) C R2 (fun z => absurd rfl z) hm (by have := upsN_le (shZ q) (shD q); have : shZ q ≤ 5 := hI.1.1; show upsN (shZ q) (shD q) < 6; omega) (fz_big (by omega))
  exact ⟨h3, E, by rw [e0, a1, b1], fp.trans b2, b4, b3, b5⟩
/-- at any depth that is enough -/
theorem losesD_ok {vs : Nat → List Prg} {now : Int32} {TX : List (Nat × Nat × Nat × Prg)} {B K s : Nat} (hs : s < 4) : ∀ (m D : Nat), m < D → KLok vs now TX B K s m (f_losesD D)
  | m, 0, h => absurd h (Nat.not_lt_zero _)
  | 0, D + 1, h => fun hh q C R => w_loses (KL := f_losesD D) (m := 0) hs (fun m1 e => by omega) hh q C R
  | m + 1, D + 1, h => fun hh q C R => w_loses (KL := f_losesD D) (m := m + 1) hs (fun m1 e => by
      have : m1 = m := by omega
      rw [this]
      exact losesD_ok hs m D (by omega)) hh q C R
