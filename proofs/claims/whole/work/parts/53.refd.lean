theorem o10 : ((1 : Int32) = 0) = False := eq_false (by decide)
theorem o00 : ((0 : Int32) = 0) = True := eq_self _
theorem ck_true {α : Type} (x : Option α) : ck True x = x := if_pos trivial
theorem bind_some9 {α β : Type} (x : α) (f : α → Option β) : (some x).bind f = f x := rfl
/-! THE REFERENCE'S DISKS -/
theorem x_write {h : Hp} (H : RF h) {x k : Nat} {id : Int32} (hx : x < 20) (hw : zE h 639 x = nI k) (hk : k < 8192) : f_X11_write 616 (nI x) id h = some (if zE h 643 x ≠ -1 ∧ zE h 643 x < 16 then (0, pE (pE (pE (pE h 640 x (zE h 643 x)) 641 x id) 642 x 0) 643 x (-1)) else (1, pE (pE (if zE h 643 x = -1 then h else pE h 643 x (zE h 643 x - 16)) 638 (8192 * x + k) id) 639 x (nI (k + 1)))) := by
  have nx : (nI x).toNatClampNeg = x := zi_nat (by omega)
  have gx : ¬ nI x < 0 := zi_neg (by omega)
  have lx : ¬ 20 ≤ x := by omega
  have e1 : (8192 : Int32) * nI x + nI k = nI (8192 * x + k) := by rw [show (8192 : Int32) = nI 8192 from rfl, zi_mul, zi_add]
  have n1 : (nI (8192 * x + k)).toNatClampNeg = 8192 * x + k := zi_nat (by omega)
  have g1 : ¬ nI (8192 * x + k) < 0 := zi_neg (by omega)
  have l1 : ¬ 163840 ≤ 8192 * x + k := by omega
  have e2 : nI k + 1 = nI (k + 1) := zi_add k 1
  have e3 : (0 : Int32) &&& 1 = 0 := by decide
  simp only [f_X11_write_68, f_X11_write_47, f_X11_write, f_X11_down, o10, o00, bh, isO, inR, ck_true, bind_some9, Nat.reduceLeDiff, Nat.reduceEqDiff, and_self, and_true, true_and, false_and, and_false, not_false_eq_true, not_true_eq_false, or_self, or_false, false_or, if_true, if_false, reduceIte, RF_o H, RF_1230 H, RO_638 H, RL_638 H, RF_1231 H, RO_639 H, RL_639 H, RF_1232 H, RO_640 H, RL_640 H, RF_1233 H, RO_641 H, RL_641 H, RF_1234 H, RO_642 H, RL_642 H, RF_1235 H, RO_643 H, RL_643 H, zR_pE, zT_pE, zL_pE, zn_pE, zE_pE, zI_pE, zR_pI, zT_pI, zL_pI, zn_pI, zE_pI, zI_pI, nx, gx, lx, hw, e1, n1, g1, l1, e2, e3]
  by_cases c1 : zE h 643 x = -1
  · simp [c1]
  · by_cases c2 : (16 : Int32) ≤ zE h 643 x
    · have c3 : ¬ zE h 643 x < 16 := Int32.not_lt.mpr c2
      simp [c1, c2, c3]
    · have c3 : zE h 643 x < 16 := Int32.not_le.mp c2
      simp [c1, c2, c3]
theorem x_kindOf {h : Hp} (H : RF h) {i k n : Nat} (hi : i < 60000) (hk : zE h 633 i = nI (16 * n + k)) (h16 : k < 16) (hn : n < 1000) : f_X11_kindOf 616 (nI i) h = some (nI k, h) := by
  have nx : (nI i).toNatClampNeg = i := zi_nat (by omega)
  have gx : ¬ nI i < 0 := zi_neg (by omega)
  have lx : ¬ 60000 ≤ i := by omega
  have e1 : nI (16 * n + k) - nI (16 * n + k) / (16 : Int32) * (16 : Int32) = nI k := by
    rw [show (16 : Int32) = nI 16 from rfl, zi_mod (by omega) (by omega) (by omega)]
    congr 1
    omega
  simp only [f_X11_kindOf, o10, o00, bh, isO, inR, ck_true, bind_some9, Nat.reduceLeDiff, Nat.reduceEqDiff, and_self, and_true, true_and, false_and, and_false, not_false_eq_true, not_true_eq_false, or_self, or_false, false_or, if_true, if_false, reduceIte, RF_o H, RF_1225 H, RO_633 H, RL_633 H, zR_pE, zT_pE, zL_pE, zn_pE, zE_pE, zI_pE, zR_pI, zT_pI, zL_pI, zn_pI, zE_pI, zI_pI, nx, gx, lx, hk, e1]
/-- what the table of records has at i -/
def rcAt (h : Hp) (i : Nat) (r : Rec) : Prop := zE h 633 i = nI (16 * rcN r + rcK r) ∧ zE h 634 i = nI (rcT r) ∧ zE h 635 i = rcA r ∧ zE h 636 i = rcB r ∧ zE h 637 i = rcC r
theorem x_newRecord {h : Hp} (H : RF h) {n k t a b c : Int32} {i : Nat} (hi : zI h 1224 616 = nI i) (hl : i < 60000) : f_X11_newRecord 616 n k t a b c h = some (nI i, pI (pE (pE (pE (pE (pE h 633 i (16 * n + k)) 634 i t) 635 i a) 636 i b) 637 i c) 1224 616 (nI (i + 1))) := by
  have nx : (nI i).toNatClampNeg = i := zi_nat (by omega)
  have gx : ¬ nI i < 0 := zi_neg (by omega)
  have lx : ¬ 60000 ≤ i := by omega
  have e2 : nI i + 1 = nI (i + 1) := zi_add i 1
  have e3 : nI (i + 1) - 1 = nI i := zi_sub (b := 1) (by omega)
  simp only [f_X11_newRecord, o10, o00, bh, isO, inR, ck_true, bind_some9, Nat.reduceLeDiff, Nat.reduceEqDiff, and_self, and_true, true_and, false_and, and_false, not_false_eq_true, not_true_eq_false, or_self, or_false, false_or, if_true, if_false, reduceIte, RF_o H, RF_1225 H, RO_633 H, RL_633 H, RF_1226 H, RO_634 H, RL_634 H, RF_1227 H, RO_635 H, RL_635 H, RF_1228 H, RO_636 H, RL_636 H, RF_1229 H, RO_637 H, RL_637 H, zR_pE, zT_pE, zL_pE, zn_pE, zE_pE, zI_pE, zR_pI, zT_pI, zL_pI, zn_pI, zE_pI, zI_pI, nx, gx, lx, hi, e2, e3]
/-! WHAT THE REFERENCE LEAVES: S names rows and places (616: its own fields) that may have changed -/
def frx (S : Nat → Nat → Prop) (h h1 : Hp) : Prop := (h1.1 = h.1 ∧ zT h1 = zT h ∧ zL h1 = zL h ∧ zR h1 = zR h ∧ zQ h1 = zQ h ∧ zJ h1 = zJ h ∧ zX h1 = zX h) ∧ (∀ f a, a ≠ 616 → zI h1 f a = zI h f a) ∧ (∀ f, ¬ S 616 f → zI h1 f 616 = zI h f 616) ∧ ∀ a j, ¬ S a j → zE h1 a j = zE h a j
theorem frx.rf {S : Nat → Nat → Prop} (h : Hp) : frx S h h := ⟨⟨rfl, rfl, rfl, rfl, rfl, rfl, rfl⟩, fun _ _ _ => rfl, fun _ _ => rfl, fun _ _ _ => rfl⟩
theorem frx.trans {S : Nat → Nat → Prop} {h h1 h2 : Hp} (p : frx S h h1) (q : frx S h1 h2) : frx S h h2 := by
  obtain ⟨⟨a1, a2, a3, a4, a5, a6, a7⟩, a8, a9, a10⟩ := p
  obtain ⟨⟨b1, b2, b3, b4, b5, b6, b7⟩, b8, b9, b10⟩ := q
  exact ⟨⟨b1.trans a1, b2.trans a2, b3.trans a3, b4.trans a4, b5.trans a5, b6.trans a6, b7.trans a7⟩, fun f a ha => (b8 f a ha).trans (a8 f a ha), fun f hf => (b9 f hf).trans (a9 f hf), fun a j hj => (b10 a j hj).trans (a10 a j hj)⟩
theorem frx.mono {S S1 : Nat → Nat → Prop} {h h1 : Hp} (p : frx S h h1) (q : ∀ a j, S a j → S1 a j) : frx S1 h h1 := ⟨p.1, p.2.1, fun f hf => p.2.2.1 f (fun z => hf (q _ _ z)), fun a j hj => p.2.2.2 a j (fun z => hj (q _ _ z))⟩
theorem frx_pE {S : Nat → Nat → Prop} {h : Hp} {a i : Nat} {v : Int32} (hs : S a i) : frx S h (pE h a i v) := by
  refine ⟨⟨rfl, rfl, rfl, rfl, rfl, rfl, rfl⟩, fun _ _ _ => rfl, fun _ _ => rfl, fun b j hj => ?_⟩
  rw [zE_pE]
  exact if_neg (fun q => hj (by rw [q.1, q.2]; exact hs))
theorem frx_pI {S : Nat → Nat → Prop} {h : Hp} {f : Nat} {v : Int32} (hs : S 616 f) : frx S h (pI h f 616 v) := by
  refine ⟨⟨rfl, rfl, rfl, rfl, rfl, rfl, rfl⟩, fun g a ha => ?_, fun g hg => ?_, fun _ _ _ => rfl⟩
  · rw [zI_pI]; exact if_neg (fun q => ha q.2)
  · rw [zI_pI]; exact if_neg (fun q => hg (by rw [q.1]; exact hs))
theorem RF.on {S : Nat → Nat → Prop} {h h1 : Hp} (H : RF h) (p : frx S h h1) : RF h1 := by
  obtain ⟨⟨a1, a2, a3, a4, -⟩, -⟩ := p
  unfold RF at H ⊢
  have e : zn h1 = zn h := by unfold zn; rw [a1]
  rw [e, a2, a3, a4]
  exact H
/-- i is a record's number, and the record is r; N records are there -/
def idAt (h : Hp) (N i : Nat) (r : Rec) : Prop := i < N ∧ rcAt h i r
/-- the disk x, its records' numbers I -/
def dkAt (h : Hp) (N : Nat) (I : List Nat) (x : Nat) (d : Dk) : Prop :=
  (zE h 642 x = (if dkU d = true then 1 else 0) ∧ zE h 643 x = dkF d ∧ zE h 639 x = nI (dkL d).length ∧ zE h 640 x = nI (dkT d)) ∧ (I.length = (dkL d).length ∧ I.length < 8192) ∧
  (∀ (k i : Nat), I[k]? = some i → zE h 638 (8192 * x + k) = nI i) ∧ (∀ (k i : Nat) (r : Rec), I[k]? = some i → (dkL d)[k]? = some r → idAt h N i r) ∧ (dkT d ≠ 0 → ∃ i, zE h 641 x = nI i ∧ idAt h N i (dkR d))
/-- where the disk x lies -/
def dkS (x : Nat) (a j : Nat) : Prop := (a = 639 ∨ a = 640 ∨ a = 641 ∨ a = 642 ∨ a = 643) ∧ j = x ∨ a = 638 ∧ j / 8192 = x
/-- where the record i lies -/
def rcS (i : Nat) (a j : Nat) : Prop := (a = 633 ∨ a = 634 ∨ a = 635 ∨ a = 636 ∨ a = 637) ∧ j = i
theorem rcAt.on {S : Nat → Nat → Prop} {h h1 : Hp} {i : Nat} {r : Rec} (q : rcAt h i r) (p : frx S h h1) (hs : ∀ a, ¬ S a i ∨ a < 633 ∨ 637 < a) : rcAt h1 i r := by
  obtain ⟨q1, q2, q3, q4, q5⟩ := q
  have e : ∀ a, 633 ≤ a → a ≤ 637 → zE h1 a i = zE h a i := fun a g1 g2 => p.2.2.2 a i ((hs a).resolve_right (by omega))
  unfold rcAt
  rw [e 633 (by omega) (by omega), e 634 (by omega) (by omega), e 635 (by omega) (by omega), e 636 (by omega) (by omega), e 637 (by omega) (by omega)]
  exact ⟨q1, q2, q3, q4, q5⟩
theorem idAt.on {S : Nat → Nat → Prop} {h h1 : Hp} {N i : Nat} {r : Rec} (q : idAt h N i r) (p : frx S h h1) (hs : ∀ a i, i < N → ¬ S a i ∨ a < 633 ∨ 637 < a) : idAt h1 N i r := ⟨q.1, q.2.on p (fun a => hs a i q.1)⟩
theorem dkAt.on {S : Nat → Nat → Prop} {h h1 : Hp} {N x : Nat} {I : List Nat} {d : Dk} (q : dkAt h N I x d) (p : frx S h h1) (hs : ∀ a i, i < N → ¬ S a i ∨ a < 633 ∨ 637 < a) (hx : ∀ a j, dkS x a j → ¬ S a j) : dkAt h1 N I x d := by
  obtain ⟨⟨q1, q2, q3, q4⟩, ⟨q5, q6⟩, q7, q8, q9⟩ := q
  have e : ∀ a, (a = 639 ∨ a = 640 ∨ a = 641 ∨ a = 642 ∨ a = 643) → zE h1 a x = zE h a x := fun a ha => p.2.2.2 a x (hx a x (Or.inl ⟨ha, rfl⟩))
  refine ⟨⟨by rw [e _ (by omega)]; exact q1, by rw [e _ (by omega)]; exact q2, by rw [e _ (by omega)]; exact q3, by rw [e _ (by omega)]; exact q4⟩, ⟨q5, q6⟩, fun k i hk => ?_, fun k i r hk hr => (q8 k i r hk hr).on p hs, fun ht => ?_⟩
  · have hk1 := (List.getElem?_eq_some_iff.mp hk).1
    rw [p.2.2.2 _ _ (hx 638 (8192 * x + k) (Or.inr ⟨rfl, by omega⟩))]
    exact q7 k i hk
  · obtain ⟨i, g1, g2⟩ := q9 ht
    exact ⟨i, by rw [e _ (by omega)]; exact g1, g2.on p hs⟩
theorem dkAt.more {h : Hp} {N N1 x : Nat} {I : List Nat} {d : Dk} (q : dkAt h N I x d) (hN : N ≤ N1) : dkAt h N1 I x d := by
  obtain ⟨q1, q2, q3, q4, q5⟩ := q
  refine ⟨q1, q2, q3, fun k i r hk hr => ⟨Nat.lt_of_lt_of_le (q4 k i r hk hr).1 hN, (q4 k i r hk hr).2⟩, fun ht => ?_⟩
  obtain ⟨i, g1, g2⟩ := q5 ht
  exact ⟨i, g1, Nat.lt_of_lt_of_le g2.1 hN, g2.2⟩
/-- a record is written to the disk x, which is up -/
theorem w_write {h : Hp} (H : RF h) {N x i : Nat} {I : List Nat} {d : Dk} {r : Rec} (hx : x < 20) (hd : dkAt h N I x d) (hu : dkU d = true) (hf : dkF d = -1 ∨ ¬ dkF d < 0) (hr : idAt h N i r) (hN : N ≤ 60000) (hl : I.length < 8191) :
    ∃ h1, f_X11_write 616 (nI x) (nI i) h = some (if dkU (dkWrite d r) = true then 1 else 0, h1) ∧ frx (dkS x) h h1 ∧ dkAt h1 N (if dkU (dkWrite d r) = true then I ++ [i] else I) x (dkWrite d r) := by
  obtain ⟨⟨q1, q2, q3, q4⟩, ⟨q5, q6⟩, q7, q8, q9⟩ := id hd
  have e := x_write (id := nI i) H hx q3 (by omega)
  rw [q2] at e
  have sx : ∀ a, (a = 639 ∨ a = 640 ∨ a = 641 ∨ a = 642 ∨ a = 643) → dkS x a x := fun a ha => Or.inl ⟨ha, rfl⟩
  by_cases c : dkF d ≠ -1 ∧ dkF d < 16
  · rw [if_pos c] at e
    have w : dkWrite d r = (dkL d, false, -1, (dkF d).toNatClampNeg, r) := by
      unfold dkWrite; rw [if_neg (by rw [hu]; decide), if_pos c]
    have f : frx (dkS x) h (pE (pE (pE (pE h 640 x (dkF d)) 641 x (nI i)) 642 x 0) 643 x (-1)) :=
      (((frx_pE (sx 640 (by omega))).trans (frx_pE (sx 641 (by omega)))).trans (frx_pE (sx 642 (by omega)))).trans (frx_pE (sx 643 (by omega)))
    have b0 : dkU (dkWrite d r) = false := by rw [w]
    rw [b0, if_neg (by simp), if_neg (by simp)]
    refine ⟨_, e, f, ?_⟩
    rw [w]
    have hrs : ∀ a i, i < N → ¬ dkS x a i ∨ a < 633 ∨ 637 < a := fun a j _ => by unfold dkS; omega
    refine ⟨⟨by simp only [zE_pE, Nat.reduceEqDiff, false_and, true_and, and_self, if_false, if_true]; rfl, by simp only [zE_pE, Nat.reduceEqDiff, false_and, true_and, and_self, if_false, if_true], by simp only [zE_pE, Nat.reduceEqDiff, false_and, true_and, and_self, if_false, if_true]; exact q3, ?_⟩, ⟨q5, q6⟩, fun k j hk => ?_, fun k j r1 hk hr1 => (q8 k j r1 hk hr1).on f hrs, fun _ => ⟨i, by simp only [zE_pE, Nat.reduceEqDiff, false_and, true_and, and_self, if_false, if_true], hr.on f hrs⟩⟩
    · obtain ⟨n, hn, en⟩ := zi_of (hf.resolve_left c.1)
      simp only [zE_pE, Nat.reduceEqDiff, false_and, true_and, and_self, if_false, if_true]
      rw [en, zi_nat hn]
    · simp only [zE_pE, Nat.reduceEqDiff, false_and, if_false]; exact q7 k j hk
  · rw [if_neg c] at e
    have w : dkWrite d r = (dkL d ++ [r], true, (if dkF d = -1 then -1 else dkF d - 16), dkT d, dkR d) := by
      unfold dkWrite; rw [if_neg (by rw [hu]; decide), if_neg c]
    have hdiv : (8192 * x + (dkL d).length) / 8192 = x := by omega
    have f : frx (dkS x) h (pE (pE (if dkF d = -1 then h else pE h 643 x (dkF d - 16)) 638 (8192 * x + (dkL d).length) (nI i)) 639 x (nI ((dkL d).length + 1))) := by
      refine ((?_ : frx (dkS x) h (if dkF d = -1 then h else pE h 643 x (dkF d - 16))).trans (frx_pE (Or.inr ⟨rfl, hdiv⟩))).trans (frx_pE (sx 639 (by omega)))
      split
      · exact frx.rf h
      · exact frx_pE (sx 643 (by omega))
    have b0 : dkU (dkWrite d r) = true := by rw [w]
    rw [b0, if_pos rfl, if_pos rfl]
    refine ⟨_, e, f, ?_⟩
    rw [w]
    have hrs : ∀ a i, i < N → ¬ dkS x a i ∨ a < 633 ∨ 637 < a := fun a j _ => by unfold dkS; omega
    have len : (I ++ [i]).length = (dkL d ++ [r]).length := by simp [q5]
    have hz : ∀ a j, (a ≠ 643 ∨ j ≠ x) → zE (if dkF d = -1 then h else pE h 643 x (dkF d - 16)) a j = zE h a j := fun a j hj => by
      split
      · rfl
      · rw [zE_pE]; exact if_neg (by omega)
    refine ⟨⟨?_, ?_, ?_, ?_⟩, ⟨len, by simp; omega⟩, fun k j hk => ?_, fun k j r1 hk hr1 => ?_, fun ht => ?_⟩
    · simp only [zE_pE, Nat.reduceEqDiff, false_and, true_and, and_self, if_false, if_true]
      rw [hz _ _ (by omega), q1, hu, if_pos rfl]
    · simp only [zE_pE, Nat.reduceEqDiff, false_and, true_and, and_self, if_false, if_true]
      split
      · next e2 => rw [q2]; exact e2
      · simp only [zE_pE, Nat.reduceEqDiff, false_and, true_and, and_self, if_false, if_true]
    · simp only [zE_pE, and_self, if_true]
      rw [← len, List.length_append, q5]
      rfl
    · simp only [zE_pE, Nat.reduceEqDiff, false_and, true_and, and_self, if_false, if_true]
      rw [hz _ _ (by omega)]; exact q4
    · have hk1 := (List.getElem?_eq_some_iff.mp hk).1
      rw [List.length_append] at hk1
      simp at hk1
      simp only [zE_pE, Nat.reduceEqDiff, false_and, true_and, if_false]
      by_cases ek : k = (dkL d).length
      · rw [if_pos (by rw [ek])]
        rw [ek, ← q5, List.getElem?_append_right (Nat.le_refl _), Nat.sub_self] at hk
        rw [← Option.some.inj hk]
      · rw [if_neg (by omega), hz _ _ (by omega)]
        rw [List.getElem?_append_left (by omega)] at hk
        exact q7 k j hk
    · have hk1 := (List.getElem?_eq_some_iff.mp hk).1
      rw [List.length_append] at hk1
      simp at hk1
      by_cases ek : k = (dkL d).length
      · rw [ek, List.getElem?_append_right (Nat.le_refl _), Nat.sub_self] at hr1
        rw [ek, ← q5, List.getElem?_append_right (Nat.le_refl _), Nat.sub_self] at hk
        rw [← Option.some.inj hk, ← Option.some.inj hr1]
        exact hr.on f hrs
      · rw [List.getElem?_append_left (by omega)] at hk hr1
        exact (q8 k j r1 hk hr1).on f hrs
    · obtain ⟨j, g1, g2⟩ := q9 ht
      refine ⟨j, ?_, g2.on f hrs⟩
      simp only [zE_pE, Nat.reduceEqDiff, false_and, true_and, and_self, if_false, if_true]
      rw [hz _ _ (by omega)]; exact g1
theorem zi_five (s r : Nat) : (5 : Int32) * nI s + nI r = nI (5 * s + r) := by
  rw [show (5 : Int32) = nI 5 from rfl, zi_mul, zi_add]
theorem zi_big (x k : Nat) : (8192 : Int32) * nI x + nI k = nI (8192 * x + k) := by
  rw [show (8192 : Int32) = nI 8192 from rfl, zi_mul, zi_add]
theorem zi_one (x : Nat) : nI x + (1 : Int32) = nI (x + 1) := zi_add x 1
theorem zi_zero : (0 : Int32) = nI 0 := rfl
theorem fz_big {n : Nat} (h : n < 1000000) : n < fz := h
theorem b01 (b : Bool) : ((if b = true then (1 : Int32) else 0) = 0) ↔ b = false := by
  cases b
  · simp
  · simp only [if_true]
    exact ⟨fun h => absurd h (by decide), fun h => absurd h (by decide)⟩
theorem w_ups_go {h : Hp} (H : RF h) {s Z : Nat} (hs : s < 4) (hz : zE h 644 s = nI Z) (hZ : Z ≤ 5) (U : Nat → Bool) (hu : ∀ r, r < Z → zE h 642 (5 * s + r) = if U r = true then 1 else 0) :
    ∀ (k r c n : Nat), r + k = Z → k < n → f_X11_ups_4 n 616 (nI s) (nI c) (nI r) h = some (nI (c + ((List.range' r k).filter U).length), h)
  | k, r, c, 0, _, hn => absurd hn (Nat.not_lt_zero k)
  | k, r, c, n + 1, hk, hn => by
    have nx : (nI s).toNatClampNeg = s := zi_nat (by omega)
    have gx : ¬ nI s < 0 := zi_neg (by omega)
    have lx : ¬ 4 ≤ s := by omega
    cases k with
    | zero =>
      have c1 : nI Z ≤ nI r := (zi_le (by omega) (by omega)).mpr (by omega)
      simp only [f_X11_ups_4, o10, o00, bh, isO, inR, ck_true, bind_some9, Nat.reduceLeDiff, Nat.reduceEqDiff, and_self, and_true, true_and, false_and, and_false, not_false_eq_true, not_true_eq_false, or_self, or_false, false_or, if_true, if_false, reduceIte, RF_o H, RF_1234 H, RO_642 H, RL_642 H, RF_1236 H, RO_644 H, RL_644 H, zR_pE, zT_pE, zL_pE, zn_pE, zE_pE, zI_pE, zR_pI, zT_pI, zL_pI, zn_pI, zE_pI, zI_pI, nx, gx, lx, hz, c1]
      rfl
    | succ k =>
      have c1 : ¬ nI Z ≤ nI r := fun q => absurd ((zi_le (by omega) (by omega)).mp q) (by omega)
      have n2 : (nI (5 * s + r)).toNatClampNeg = 5 * s + r := zi_nat (by omega)
      have g2 : ¬ nI (5 * s + r) < 0 := zi_neg (by omega)
      have l2 : ¬ 20 ≤ 5 * s + r := by omega
      have ih := fun c => w_ups_go H hs hz hZ U hu k (r + 1) c n (by omega) (by omega)
      simp only [f_X11_ups_4, f_X11_ups_33, o10, o00, bh, isO, inR, ck_true, bind_some9, Nat.reduceLeDiff, Nat.reduceEqDiff, and_self, and_true, true_and, false_and, and_false, not_false_eq_true, not_true_eq_false, or_self, or_false, false_or, if_true, if_false, reduceIte, RF_o H, RF_1234 H, RO_642 H, RL_642 H, RF_1236 H, RO_644 H, RL_644 H, zR_pE, zT_pE, zL_pE, zn_pE, zE_pE, zI_pE, zR_pI, zT_pI, zL_pI, zn_pI, zE_pI, zI_pI, nx, gx, lx, hz, c1, zi_five, n2, g2, l2, hu r (by omega), b01, zi_one, ih]
      cases hU : U r
      · simp only [if_true]
        rw [zi_zero, zi_add, ih, List.range'_succ, List.filter_cons, hU]
        rfl
      · simp only [Bool.true_eq_false, if_false]
        rw [List.range'_succ, List.filter_cons, hU, if_pos rfl, List.length_cons]
        congr 3
        omega
theorem w_ups {h : Hp} (H : RF h) {s Z : Nat} (hs : s < 4) (hz : zE h 644 s = nI Z) (hZ : Z ≤ 5) (U : Nat → Bool) (hu : ∀ r, r < Z → zE h 642 (5 * s + r) = if U r = true then 1 else 0) : f_X11_ups 616 (nI s) h = some (nI ((List.range Z).filter U).length, h) := by
  unfold f_X11_ups
  rw [zi_zero, w_ups_go H hs hz hZ U hu Z 0 0 fz (by omega) (fz_big (by omega)), Nat.zero_add, List.range_eq_range']
/-! MADE ALIKE -/
/-- numbers and records go together -/
def idsOf (I J : List Nat) (L M : List Rec) : Prop := I.length = L.length ∧ J.length = M.length ∧ ∀ (k i j : Nat) (a b : Rec), I[k]? = some i → J[k]? = some j → L[k]? = some a → M[k]? = some b → (i = j ↔ a = b)
theorem cpl_ids : ∀ (I J : List Nat) (L M : List Rec), idsOf I J L M → cpl I J = cpl L M
  | [], J, L, M, h => by
    have : L = [] := List.length_eq_zero_iff.mp h.1.symm
    rw [this]
    unfold cpl
    rfl
  | i :: I, [], L, M, h => by
    have : M = [] := List.length_eq_zero_iff.mp h.2.1.symm
    rw [this]
    cases L <;> (unfold cpl; rfl)
  | i :: I, j :: J, [], M, h => by cases h.1
  | i :: I, j :: J, a :: L, [], h => by cases h.2.1
  | i :: I, j :: J, a :: L, b :: M, h => by
    have e := h.2.2 0 i j a b rfl rfl rfl rfl
    have ih := cpl_ids I J L M ⟨Nat.succ.inj h.1, Nat.succ.inj h.2.1, fun k i j a b h1 h2 h3 h4 => h.2.2 (k + 1) i j a b h1 h2 h3 h4⟩
    unfold cpl
    by_cases c : i = j
    · rw [if_pos c, if_pos (e.mp c), ih]
    · rw [if_neg c, if_neg (fun q => c (e.mpr q))]
theorem cpl_le {α : Type} [DecidableEq α] : ∀ (a b : List α), cpl a b ≤ a.length ∧ cpl a b ≤ b.length
  | [], b => by unfold cpl; exact ⟨Nat.zero_le _, Nat.zero_le _⟩
  | x :: a, [] => by unfold cpl; exact ⟨Nat.zero_le _, Nat.zero_le _⟩
  | x :: a, y :: b => by
    unfold cpl
    split
    · have := cpl_le a b
      exact ⟨Nat.succ_le_succ this.1, Nat.succ_le_succ this.2⟩
    · exact ⟨Nat.zero_le _, Nat.zero_le _⟩
theorem cpl_at {α : Type} [DecidableEq α] : ∀ (a b : List α) (k : Nat), k < cpl a b → a[k]? = b[k]?
  | [], b, k, h => by unfold cpl at h; cases h
  | x :: a, [], k, h => by unfold cpl at h; cases h
  | x :: a, y :: b, k, h => by
    unfold cpl at h
    split at h
    · next e =>
      cases k with
      | zero => rw [e]; rfl
      | succ k => exact cpl_at a b k (by omega)
    · cases h
theorem cpl_no {α : Type} [DecidableEq α] : ∀ (a b : List α) (x y : α), a[cpl a b]? = some x → b[cpl a b]? = some y → x ≠ y
  | [], b, x, y, h, _ => by cases h
  | x :: a, [], _, y, _, h => by cases h
  | p :: a, q :: b, x, y, h1, h2 => by
    unfold cpl at h1 h2
    split at h1
    · next e =>
      rw [if_pos e] at h2
      exact cpl_no a b x y h1 h2
    · next e =>
      rw [if_neg e] at h2
      cases h1; cases h2
      exact e
theorem w_alike_2 {h : Hp} (H : RF h) {N x y : Nat} {I J : List Nat} {d l : Dk} (hx : x < 20) (hy : y < 20) (hd : dkAt h N I x d) (hl : dkAt h N J y l) (hN : N ≤ 60000) :
    ∀ (m k n : Nat), k + m = cpl I J → m < n → f_X11_makeAlike_2 n 616 (nI x) (nI y) (nI k) h = f_X11_makeAlike_55 616 (nI x) (nI y) (nI (cpl I J)) h
  | m, k, 0, _, hn => absurd hn (Nat.not_lt_zero m)
  | m, k, n + 1, hk, hn => by
    obtain ⟨⟨-, -, q3, -⟩, ⟨q5, q6⟩, q7, q8, -⟩ := id hd
    obtain ⟨⟨-, -, p3, -⟩, ⟨p5, p6⟩, p7, p8, -⟩ := id hl
    have nx : (nI x).toNatClampNeg = x := zi_nat (by omega)
    have gx : ¬ nI x < 0 := zi_neg (by omega)
    have lx : ¬ 20 ≤ x := by omega
    have ny : (nI y).toNatClampNeg = y := zi_nat (by omega)
    have gy : ¬ nI y < 0 := zi_neg (by omega)
    have ly : ¬ 20 ≤ y := by omega
    have cl := cpl_le I J
    by_cases c1 : I.length ≤ k
    · have ek : k = cpl I J := by omega
      have d1 : nI (dkL d).length ≤ nI k := (zi_le (by omega) (by omega)).mpr (by omega)
      simp only [f_X11_makeAlike_2, o10, o00, bh, isO, inR, ck_true, bind_some9, Nat.reduceLeDiff, Nat.reduceEqDiff, and_self, and_true, true_and, false_and, and_false, not_false_eq_true, not_true_eq_false, or_self, or_false, false_or, if_true, if_false, reduceIte, RF_o H, RF_1230 H, RO_638 H, RL_638 H, RF_1231 H, RO_639 H, RL_639 H, zR_pE, zT_pE, zL_pE, zn_pE, zE_pE, zI_pE, zR_pI, zT_pI, zL_pI, zn_pI, zE_pI, zI_pI, nx, gx, lx, q3, d1]
      rw [ek]
    · have d1 : ¬ nI (dkL d).length ≤ nI k := fun q => absurd ((zi_le (by omega) (by omega)).mp q) (by omega)
      by_cases c2 : J.length ≤ k
      · have ek : k = cpl I J := by omega
        have d2 : nI (dkL l).length ≤ nI k := (zi_le (by omega) (by omega)).mpr (by omega)
        simp only [f_X11_makeAlike_2, o10, o00, bh, isO, inR, ck_true, bind_some9, Nat.reduceLeDiff, Nat.reduceEqDiff, and_self, and_true, true_and, false_and, and_false, not_false_eq_true, not_true_eq_false, or_self, or_false, false_or, if_true, if_false, reduceIte, RF_o H, RF_1230 H, RO_638 H, RL_638 H, RF_1231 H, RO_639 H, RL_639 H, zR_pE, zT_pE, zL_pE, zn_pE, zE_pE, zI_pE, zR_pI, zT_pI, zL_pI, zn_pI, zE_pI, zI_pI, nx, gx, lx, q3, d1, ny, gy, ly, p3, d2]
        rw [ek]
      · have d2 : ¬ nI (dkL l).length ≤ nI k := fun q => absurd ((zi_le (by omega) (by omega)).mp q) (by omega)
        have hi : I[k]? = some (I[k]'(by omega)) := List.getElem?_eq_getElem (by omega)
        have hj : J[k]? = some (J[k]'(by omega)) := List.getElem?_eq_getElem (by omega)
        have hia := q7 k _ hi
        have hja := p7 k _ hj
        have bi := (q8 k _ _ hi (List.getElem?_eq_getElem (by omega : k < (dkL d).length))).1
        have bj := (p8 k _ _ hj (List.getElem?_eq_getElem (by omega : k < (dkL l).length))).1
        generalize I[k]'(by omega) = i at hi hia bi
        generalize J[k]'(by omega) = j at hj hja bj
        have n1 : (nI (8192 * x + k)).toNatClampNeg = 8192 * x + k := zi_nat (by omega)
        have g1 : ¬ nI (8192 * x + k) < 0 := zi_neg (by omega)
        have l1 : ¬ 163840 ≤ 8192 * x + k := by omega
        have n2 : (nI (8192 * y + k)).toNatClampNeg = 8192 * y + k := zi_nat (by omega)
        have g2 : ¬ nI (8192 * y + k) < 0 := zi_neg (by omega)
        have l2 : ¬ 163840 ≤ 8192 * y + k := by omega
        have ee : nI i = nI j ↔ i = j := zi_eq (by omega) (by omega)
        by_cases c3 : k < cpl I J
        · have e := cpl_at I J k c3
          rw [hi, hj] at e
          have e := Option.some.inj e
          obtain ⟨m, rfl⟩ : ∃ m1, m = m1 + 1 := ⟨m - 1, by omega⟩
          have ih := w_alike_2 H hx hy hd hl hN m (k + 1) n (by omega) (by omega)
          simp only [f_X11_makeAlike_2, o10, o00, bh, isO, inR, ck_true, bind_some9, Nat.reduceLeDiff, Nat.reduceEqDiff, and_self, and_true, true_and, false_and, and_false, not_false_eq_true, not_true_eq_false, or_self, or_false, false_or, if_true, if_false, reduceIte, RF_o H, RF_1230 H, RO_638 H, RL_638 H, RF_1231 H, RO_639 H, RL_639 H, zR_pE, zT_pE, zL_pE, zn_pE, zE_pE, zI_pE, zR_pI, zT_pI, zL_pI, zn_pI, zE_pI, zI_pI, nx, gx, lx, q3, d1, ny, gy, ly, p3, d2, zi_big, n1, g1, l1, n2, g2, l2, hia, hja, ee, e, zi_one, ih]
        · have ek : k = cpl I J := by omega
          have ne : ¬ i = j := by
            rw [ek] at hi hj
            exact cpl_no I J i j hi hj
          simp only [f_X11_makeAlike_2, o10, o00, bh, isO, inR, ck_true, bind_some9, Nat.reduceLeDiff, Nat.reduceEqDiff, and_self, and_true, true_and, false_and, and_false, not_false_eq_true, not_true_eq_false, or_self, or_false, false_or, if_true, if_false, reduceIte, RF_o H, RF_1230 H, RO_638 H, RL_638 H, RF_1231 H, RO_639 H, RL_639 H, zR_pE, zT_pE, zL_pE, zn_pE, zE_pE, zI_pE, zR_pI, zT_pI, zL_pI, zn_pI, zE_pI, zI_pI, nx, gx, lx, q3, d1, ny, gy, ly, p3, d2, zi_big, n1, g1, l1, n2, g2, l2, hia, hja, ee, ne]
          rw [ek]
theorem zi_le0 {a b : Nat} (ha : a < 2147483648) (hb : b < 2147483648) (h : ¬ a ≤ b) : ¬ nI a ≤ nI b := fun q => h ((zi_le ha hb).mp q)
/-- the disk x, which has the first k of the other's records, writes the rest -/
theorem w_alike_65 {x y : Nat} {J : List Nat} {l : Dk} {N : Nat} (hx : x < 20) (hy : y < 20) (hxy : x ≠ y) (hN : N ≤ 60000) (hJ : J.length < 8191) :
    ∀ (m k n : Nat) (h : Hp) (d : Dk), RF h → dkAt h N J y l → dkAt h N (J.take k) x d → dkL d = (dkL l).take k → (dkF d = -1 ∨ ¬ dkF d < 0) → k + m = J.length → m + 1 < n →
      ∃ h1, f_X11_makeAlike_65 n 616 (nI x) (nI y) (nI k) (if dkU d = true then 1 else 0) h = some h1 ∧ frx (dkS x) h h1 ∧ dkAt h1 N (J.take (dkL (dkWrites d ((dkL l).drop k))).length) x (dkWrites d ((dkL l).drop k))
  | m, k, 0, _, _, _, _, _, _, _, _, hn => absurd hn (Nat.not_lt_zero _)
  | m, k, n + 1, h, d, H, hl, hd, hL, hF, hk, hn => by
    obtain ⟨⟨p1, p2, p3, p4⟩, ⟨p5, p6⟩, p7, p8, p9⟩ := id hl
    have ld : (dkL d).length = k := by
      rw [hL, List.length_take]; omega
    cases hu : dkU d
    · -- down
      rw [dkWrites_down hu]
      refine ⟨h, ?_, frx.rf h, by rw [ld]; exact hd⟩
      simp only [f_X11_makeAlike_65, Bool.false_eq_true, if_false, if_true]
    · have ny : (nI y).toNatClampNeg = y := zi_nat (by omega)
      have gy : ¬ nI y < 0 := zi_neg (by omega)
      have ly : ¬ 20 ≤ y := by omega
      have o1 : ¬ (1 : Int32) = 0 := by decide
      cases m with
      | zero =>
        have d1 : nI (dkL l).length ≤ nI k := (zi_le (by omega) (by omega)).mpr (by omega)
        refine ⟨h, ?_, frx.rf h, ?_⟩
        · simp only [f_X11_makeAlike_65, o10, o00, bh, isO, inR, ck_true, bind_some9, Nat.reduceLeDiff, Nat.reduceEqDiff, and_self, and_true, true_and, false_and, and_false, not_false_eq_true, not_true_eq_false, or_self, or_false, false_or, if_true, if_false, reduceIte, RF_o H, RF_1230 H, RO_638 H, RL_638 H, RF_1231 H, RO_639 H, RL_639 H, zR_pE, zT_pE, zL_pE, zn_pE, zE_pE, zI_pE, zR_pI, zT_pI, zL_pI, zn_pI, zE_pI, zI_pI, o1, ny, gy, ly, p3, d1]
        · have : (dkL l).drop k = [] := List.drop_eq_nil_of_le (by omega)
          rw [this]
          show dkAt h N (J.take (dkL d).length) x d
          rw [ld]; exact hd
      | succ m =>
        have d1 : ¬ nI (dkL l).length ≤ nI k := zi_le0 (by omega) (by omega) (by omega)
        have n2 : (nI (8192 * y + k)).toNatClampNeg = 8192 * y + k := zi_nat (by omega)
        have g2 : ¬ nI (8192 * y + k) < 0 := zi_neg (by omega)
        have l2 : ¬ 163840 ≤ 8192 * y + k := by omega
        have hj : J[k]? = some (J[k]'(by omega)) := List.getElem?_eq_getElem (by omega)
        have hr : (dkL l)[k]? = some ((dkL l)[k]'(by omega)) := List.getElem?_eq_getElem (by omega)
        have hja := p7 k _ hj
        have hjr := p8 k _ _ hj hr
        have eJ : J.take (k + 1) = J.take k ++ [J[k]'(by omega)] := by rw [List.take_add_one, hj]; rfl
        have eL : (dkL l).take (k + 1) = (dkL l).take k ++ [(dkL l)[k]'(by omega)] := by rw [List.take_add_one, hr]; rfl
        have eD : (dkL l).drop k = (dkL l)[k]'(by omega) :: (dkL l).drop (k + 1) := List.drop_eq_getElem_cons (by omega)
        generalize J[k]'(by omega) = j at hj hja hjr eJ
        generalize (dkL l)[k]'(by omega) = r at hr hjr eL eD
        obtain ⟨h1, e1, f1, a1⟩ := w_write H hx hd hu hF hjr hN (by rw [List.length_take]; omega)
        have H1 := H.on f1
        have rs : ∀ a i, i < N → ¬ dkS x a i ∨ a < 633 ∨ 637 < a := fun a j _ => by unfold dkS; omega
        have hl1 : dkAt h1 N J y l := hl.on f1 rs (fun a j q => by unfold dkS at q ⊢; omega)
        have step : f_X11_makeAlike_65 (n + 1) 616 (nI x) (nI y) (nI k) (if true = true then 1 else 0) h = f_X11_makeAlike_65 n 616 (nI x) (nI y) (nI (k + 1)) (if dkU (dkWrite d r) = true then 1 else 0) h1 := by
          simp only [f_X11_makeAlike_65, o10, o00, bh, isO, inR, ck_true, bind_some9, Nat.reduceLeDiff, Nat.reduceEqDiff, and_self, and_true, true_and, false_and, and_false, not_false_eq_true, not_true_eq_false, or_self, or_false, false_or, if_true, if_false, reduceIte, RF_o H, RF_1230 H, RO_638 H, RL_638 H, RF_1231 H, RO_639 H, RL_639 H, zR_pE, zT_pE, zL_pE, zn_pE, zE_pE, zI_pE, zR_pI, zT_pI, zL_pI, zn_pI, zE_pI, zI_pI, o1, ny, gy, ly, p3, d1, zi_big, n2, g2, l2, hja, e1, zi_one]
        have eW : dkWrites d ((dkL l).drop k) = dkWrites (dkWrite d r) ((dkL l).drop (k + 1)) := by rw [eD]; rfl
        rw [step, eW]
        rcases dkWrite_or d r with ⟨u1, -, g1⟩ | ⟨u1, g1⟩
        · rw [u1, if_pos rfl, ← eJ] at a1
          have hF1 : dkF (dkWrite d r) = -1 ∨ ¬ dkF (dkWrite d r) < 0 := by
            unfold dkWrite at u1 ⊢
            rw [if_neg (by rw [hu]; simp)] at u1 ⊢
            split at u1
            · cases u1
            · next c =>
              rw [if_neg c]
              by_cases cf : dkF d = -1
              · left; show (if dkF d = -1 then -1 else dkF d - 16) = -1; rw [if_pos cf]
              · right
                show ¬ (if dkF d = -1 then -1 else dkF d - 16) < 0
                rw [if_neg cf]
                have c16 : ¬ dkF d < 16 := fun q => c ⟨cf, q⟩
                obtain ⟨v, hv, ev⟩ := zi_of (hF.resolve_left cf)
                rw [ev] at c16 ⊢
                have : ¬ v < 16 := fun q => c16 ((zi_lt (b := 16) hv (by omega)).mpr q)
                rw [show (16 : Int32) = nI 16 from rfl, zi_sub (by omega)]
                exact zi_neg (by omega)
          obtain ⟨h2, e2, f2, a2⟩ := w_alike_65 hx hy hxy hN hJ m (k + 1) n h1 (dkWrite d r) H1 hl1 a1 (by rw [g1, hL, eL]) hF1 (by omega) (by omega)
          exact ⟨h2, e2, f1.trans f2, a2⟩
        · rw [u1, if_neg (by simp)] at a1
          refine ⟨h1, ?_, f1, ?_⟩
          · rw [u1]
            obtain ⟨n, rfl⟩ : ∃ n1, n = n1 + 1 := ⟨n - 1, by omega⟩
            simp only [f_X11_makeAlike_65, Bool.false_eq_true, if_false, if_true]
          · rw [dkWrites_down u1, g1, ld]
            exact a1
theorem dkAlike_take (d l : Dk) : dkAlike d l = dkWrites ((dkL l).take (cpl (dkL d) (dkL l)), dkU d, dkF d, 0, dkR d) ((dkL l).drop (cpl (dkL d) (dkL l))) := by
  unfold dkAlike; rw [cpl_take]
/-- the disk x is made alike y's -/
theorem w_alike {h : Hp} (H : RF h) {N x y : Nat} {I J : List Nat} {d l : Dk} (hx : x < 20) (hy : y < 20) (hxy : x ≠ y) (hd : dkAt h N I x d) (hl : dkAt h N J y l) (hN : N ≤ 60000) (hJ : J.length < 8191) (hI : idsOf I J (dkL d) (dkL l)) (hu : dkU d = true) (ht : dkT d = 0) (hF : dkF d = -1 ∨ ¬ dkF d < 0) :
    ∃ h1, f_X11_makeAlike 616 (nI x) (nI y) h = some h1 ∧ frx (dkS x) h h1 ∧ dkAt h1 N (J.take (dkL (dkAlike d l)).length) x (dkAlike d l) := by
  have ec := cpl_ids I J _ _ hI
  have cl := cpl_le I J
  obtain ⟨⟨q1, q2, q3, q4⟩, ⟨q5, q6⟩, q7, q8, q9⟩ := id hd
  obtain ⟨-, ⟨p5, p6⟩, -⟩ := id hl
  have nx : (nI x).toNatClampNeg = x := zi_nat (by omega)
  have gx : ¬ nI x < 0 := zi_neg (by omega)
  have lx : ¬ 20 ≤ x := by omega
  unfold f_X11_makeAlike
  rw [zi_zero, w_alike_2 H hx hy hd hl hN (cpl I J) 0 fz (by omega) (fz_big (by omega))]
  simp only [f_X11_makeAlike_55, o10, o00, bh, isO, inR, ck_true, bind_some9, Nat.reduceLeDiff, Nat.reduceEqDiff, and_self, and_true, true_and, false_and, and_false, not_false_eq_true, not_true_eq_false, or_self, or_false, false_or, if_true, if_false, reduceIte, RF_o H, RF_1231 H, RO_639 H, RL_639 H, zR_pE, zT_pE, zL_pE, zn_pE, zE_pE, zI_pE, zR_pI, zT_pI, zL_pI, zn_pI, zE_pI, zI_pI, nx, gx, lx]
  have f0 : frx (dkS x) h (pE h 639 x (nI (cpl I J))) := frx_pE (Or.inl ⟨by omega, rfl⟩)
  have rs : ∀ a i, i < N → ¬ dkS x a i ∨ a < 633 ∨ 637 < a := fun a j _ => by unfold dkS; omega
  have tk : ∀ k : Nat, k < cpl I J → I[k]? = J[k]? := cpl_at I J
  have d0 : dkAt (pE h 639 x (nI (cpl I J))) N (J.take (cpl I J)) x ((dkL l).take (cpl I J), dkU d, dkF d, 0, dkR d) := by
    refine ⟨⟨?_, ?_, ?_, ?_⟩, ⟨by show (J.take (cpl I J)).length = ((dkL l).take (cpl I J)).length; rw [List.length_take, List.length_take, p5], by rw [List.length_take]; omega⟩, fun k i hk => ?_, fun k i r hk hr => ?_, fun q => absurd rfl q⟩
    · simp only [zE_pE, Nat.reduceEqDiff, false_and, if_false]; exact q1
    · simp only [zE_pE, Nat.reduceEqDiff, false_and, if_false]; exact q2
    · simp only [zE_pE, and_self, if_true]
      congr 1
      show cpl I J = ((dkL l).take (cpl I J)).length
      rw [List.length_take]; omega
    · simp only [zE_pE, Nat.reduceEqDiff, false_and, if_false]; rw [q4, ht]
    · simp only [zE_pE, Nat.reduceEqDiff, false_and, if_false]
      have hk1 := (List.getElem?_eq_some_iff.mp hk).1
      rw [List.length_take] at hk1
      rw [List.getElem?_take_of_lt (by omega), ← tk k (by omega)] at hk
      exact q7 k i hk
    · have hk1 := (List.getElem?_eq_some_iff.mp hk).1
      rw [List.length_take] at hk1
      rw [List.getElem?_take_of_lt (by omega)] at hk
      have hr : ((dkL l).take (cpl I J))[k]? = some r := hr
      rw [List.getElem?_take_of_lt (by omega)] at hr
      obtain ⟨-, -, -, p8, -⟩ := hl
      exact (p8 k i r hk hr).on f0 rs
  have hl0 := hl.on f0 rs (fun a j q => by unfold dkS at q ⊢; omega)
  have e0 : (if dkU (((dkL l).take (cpl I J), dkU d, dkF d, 0, dkR d) : Dk) = true then (1 : Int32) else 0) = 1 := by
    show (if dkU d = true then (1 : Int32) else 0) = 1
    rw [if_pos hu]
  obtain ⟨h1, e1, f1, a1⟩ := w_alike_65 hx hy hxy hN hJ (J.length - cpl I J) (cpl I J) fz _ _ (H.on f0) hl0 d0 rfl hF (by omega) (fz_big (by omega))
  rw [e0] at e1
  refine ⟨h1, e1, f0.trans f1, ?_⟩
  rw [dkAlike_take, ← ec]
  exact a1
/-! A RECORD IS SPREAD -/
theorem cnt_but (p : Nat → Bool) (l : Nat) (hp : p l = true) : ∀ k r, r ≤ l → l < r + k → ((List.range' r k).filter p).length = ((List.range' r k).filter (fun x => decide (x ≠ l) && p x)).length + 1
  | 0, r, h1, h2 => by omega
  | k + 1, r, h1, h2 => by
    rw [List.range'_succ, List.filter_cons, List.filter_cons]
    by_cases e : r = l
    · subst e
      have eq : (List.range' (r + 1) k).filter (fun x => decide (x ≠ r) && p x) = (List.range' (r + 1) k).filter p := by
        refine List.filter_congr (fun x hx => ?_)
        have := (List.mem_range'_1.mp hx).1
        have ne : x ≠ r := by omega
        simp [ne]
      rw [eq, hp]
      simp
    · have ih := cnt_but p l hp k (r + 1) (by omega) (by omega)
      have c : (decide (r ≠ l) && p r) = p r := by simp [e]
      rw [c]
      cases p r
      · exact ih
      · simp only [if_true, List.length_cons]; omega
/-- the disks of shard s; their records' numbers -/
def dsAt (h : Hp) (N : Nat) (I : Nat → List Nat) (s : Nat) (D : Nat → Dk) : Prop := ∀ r, r < 5 → dkAt h N (I r) (5 * s + r) (D r)
/-- where the disks of shard s lie -/
def dsS (s : Nat) (a j : Nat) : Prop := ∃ r, r < 5 ∧ dkS (5 * s + r) a j
theorem dsS_rec (s : Nat) : ∀ a i, ¬ dsS s a i ∨ a < 633 ∨ 637 < a := fun a i => by
  by_cases h : 633 ≤ a ∧ a ≤ 637
  · left
    rintro ⟨r, -, q⟩
    unfold dkS at q
    omega
  · omega
theorem dsAt.one {h h1 : Hp} {N s r : Nat} {I I1 : Nat → List Nat} {D D1 : Nat → Dk} (q : dsAt h N I s D) (hr : r < 5) (f : frx (dkS (5 * s + r)) h h1) (d : dkAt h1 N (I1 r) (5 * s + r) (D1 r)) (hI : ∀ x, x ≠ r → I1 x = I x) (hD : ∀ x, x ≠ r → D1 x = D x) : dsAt h1 N I1 s D1 := by
  intro x hx
  by_cases e : x = r
  · rw [e]; exact d
  · rw [hI x e, hD x e]
    exact (q x hx).on f (fun a j _ => by unfold dkS; omega) (fun a j z => by unfold dkS at z ⊢; omega)
/-- a disk that is up can go on -/
def dkOK (d : Dk) : Prop := dkU d = true → dkT d = 0 ∧ (dkF d = -1 ∨ ¬ dkF d < 0)
theorem dkOK_write {d : Dk} (r : Rec) (h : dkOK d) : dkOK (dkWrite d r) := by
  intro hu
  unfold dkWrite at hu ⊢
  split at hu
  · next c => rw [hu] at c; cases c
  · next c =>
    split at hu
    · cases hu
    · next c2 =>
      rw [if_neg c, if_neg c2]
      have hu2 : dkU d = true := by cases hz : dkU d <;> simp_all
      obtain ⟨h1, h2⟩ := h hu2
      refine ⟨h1, ?_⟩
      by_cases cf : dkF d = -1
      · left; show (if dkF d = -1 then -1 else dkF d - 16) = -1; rw [if_pos cf]
      · right
        show ¬ (if dkF d = -1 then -1 else dkF d - 16) < 0
        rw [if_neg cf]
        have c16 : ¬ dkF d < 16 := fun q => c2 ⟨cf, q⟩
        obtain ⟨v, hv, ev⟩ := zi_of (h2.resolve_left cf)
        rw [ev] at c16 ⊢
        have : ¬ v < 16 := fun q => c16 ((zi_lt (b := 16) hv (by omega)).mpr q)
        rw [show (16 : Int32) = nI 16 from rfl, zi_sub (by omega)]
        exact zi_neg (by omega)
/-- the disks when those before r have had their turn, and the numbers -/
def spD (D : Nat → Dk) (l : Nat) (rc : Rec) (r : Nat) : Nat → Dk := fun x => if x = l ∨ x < r then dkWrite (D x) rc else D x
def spI (D : Nat → Dk) (I : Nat → List Nat) (l : Nat) (rc : Rec) (i r : Nat) : Nat → List Nat := fun x => if (x = l ∨ x < r) ∧ dkU (dkWrite (D x) rc) = true then I x ++ [i] else I x
theorem w_spread_go {N s l Z i : Nat} {I : Nat → List Nat} {D : Nat → Dk} {rc : Rec} (hs : s < 4) (hZ : Z ≤ 5) (hl : l < Z) (hN : N ≤ 60000) (hI : ∀ r, r < 5 → (I r).length < 8191) (hok : ∀ r, r < 5 → dkOK (D r)) (hi : i < N) :
    ∀ (k r n : Nat) (h : Hp), RF h → zE h 644 s = nI Z → dsAt h N (spI D I l rc i r) s (spD D l rc r) → rcAt h i rc → r + k = Z → k < n →
      ∃ h1, f_X11_spread_21 n 616 (nI s) (nI l) (nI i) (nI (((List.range' 0 r).filter (fun x => decide (x ≠ l) && dkU (dkWrite (D x) rc))).length + 1)) (nI r) h = some (if Z < 2 * (((List.range' 0 Z).filter (fun x => decide (x ≠ l) && dkU (dkWrite (D x) rc))).length + 1) then 1 else 0, h1) ∧ frx (dsS s) h h1 ∧ dsAt h1 N (spI D I l rc i Z) s (spD D l rc Z)
  | k, r, 0, _, _, _, _, _, _, hn => absurd hn (Nat.not_lt_zero _)
  | k, r, n + 1, h, H, hz, hd, hrc, hk, hn => by
    have nx : (nI s).toNatClampNeg = s := zi_nat (by omega)
    have gx : ¬ nI s < 0 := zi_neg (by omega)
    have lx : ¬ 4 ≤ s := by omega
    have fl : ∀ m, ((List.range' 0 m).filter (fun x => decide (x ≠ l) && dkU (dkWrite (D x) rc))).length ≤ m := fun m => Nat.le_trans (List.length_filter_le _ _) (by rw [List.length_range']; exact Nat.le_refl _)
    cases k with
    | zero =>
      have er : r = Z := by omega
      subst er
      have c1 : nI r ≤ nI r := (zi_le (by omega) (by omega)).mpr (Nat.le_refl _)
      refine ⟨h, ?_, frx.rf h, hd⟩
      have fr := fl r
      generalize ((List.range' 0 r).filter (fun x => decide (x ≠ l) && dkU (dkWrite (D x) rc))).length = c at fr ⊢
      have e2 : (2 : Int32) * nI (c + 1) = nI (2 * (c + 1)) := by rw [show (2 : Int32) = nI 2 from rfl, zi_mul]
      have c2 : nI (2 * (c + 1)) ≤ nI r ↔ 2 * (c + 1) ≤ r := zi_le (by omega) (by omega)
      simp only [f_X11_spread_21, o10, o00, bh, isO, inR, ck_true, bind_some9, Nat.reduceLeDiff, Nat.reduceEqDiff, and_self, and_true, true_and, false_and, and_false, not_false_eq_true, not_true_eq_false, or_self, or_false, false_or, if_true, if_false, reduceIte, RF_o H, RF_1234 H, RO_642 H, RL_642 H, RF_1236 H, RO_644 H, RL_644 H, zR_pE, zT_pE, zL_pE, zn_pE, zE_pE, zI_pE, zR_pI, zT_pI, zL_pI, zn_pI, zE_pI, zI_pI, nx, gx, lx, hz, c1, e2, c2]
      by_cases hc : 2 * (c + 1) ≤ r
      · rw [if_pos hc, if_neg (by omega)]
      · rw [if_neg hc, if_pos (by omega)]
    | succ k =>
      have c1 : ¬ nI Z ≤ nI r := zi_le0 (by omega) (by omega) (by omega)
      have n2 : (nI (5 * s + r)).toNatClampNeg = 5 * s + r := zi_nat (by omega)
      have g2 : ¬ nI (5 * s + r) < 0 := zi_neg (by omega)
      have l2 : ¬ 20 ≤ 5 * s + r := by omega
      have fr := fl r
      have hc9 : ((List.range' 0 (r + 1)).filter (fun x => decide (x ≠ l) && dkU (dkWrite (D x) rc))).length = ((List.range' 0 r).filter (fun x => decide (x ≠ l) && dkU (dkWrite (D x) rc))).length + (if (decide (r ≠ l) && dkU (dkWrite (D r) rc)) = true then 1 else 0) := by
        rw [List.range'_1_concat, List.filter_append, List.length_append, Nat.zero_add]
        congr 1
        rw [List.filter_cons]
        cases (decide (r ≠ l) && dkU (dkWrite (D r) rc)) <;> rfl
      by_cases e : r = l
      · -- the leader has had its turn
        have eD : spD D l rc (r + 1) = spD D l rc r := by
          funext x
          unfold spD
          have : (x = l ∨ x < r + 1) ↔ (x = l ∨ x < r) := by omega
          simp only [this]
        have eI : spI D I l rc i (r + 1) = spI D I l rc i r := by
          funext x
          unfold spI
          have : (x = l ∨ x < r + 1) ↔ (x = l ∨ x < r) := by omega
          simp only [this]
        rw [← eD, ← eI] at hd
        obtain ⟨h1, e1, f1, a1⟩ := w_spread_go hs hZ hl hN hI hok hi k (r + 1) n h H hz hd hrc (by omega) (by omega)
        refine ⟨h1, ?_, f1, a1⟩
        rw [hc9, if_neg (by simp [e]), Nat.add_zero] at e1
        have cl : (nI r = nI l) = True := by rw [e]; exact eq_self _
        simp only [f_X11_spread_21, f_X11_spread_69, o10, o00, bh, isO, inR, ck_true, bind_some9, Nat.reduceLeDiff, Nat.reduceEqDiff, and_self, and_true, true_and, false_and, and_false, not_false_eq_true, not_true_eq_false, or_self, or_false, false_or, if_true, if_false, reduceIte, RF_o H, RF_1234 H, RO_642 H, RL_642 H, RF_1236 H, RO_644 H, RL_644 H, zR_pE, zT_pE, zL_pE, zn_pE, zE_pE, zI_pE, zR_pI, zT_pI, zL_pI, zn_pI, zE_pI, zI_pI, nx, gx, lx, hz, c1, cl, zi_one]
        exact e1
      · have cl : ¬ nI r = nI l := fun q => e ((zi_eq (by omega) (by omega)).mp q)
        have hr5 : r < 5 := by omega
        have eDr : spD D l rc r r = D r := by unfold spD; exact if_neg (by omega)
        have eIr : spI D I l rc i r r = I r := by unfold spI; exact if_neg (by omega)
        have hdr := hd r hr5
        rw [eDr, eIr] at hdr
        have neD : ∀ x, x ≠ r → spD D l rc (r + 1) x = spD D l rc r x := fun x hx => by
          unfold spD
          have : (x = l ∨ x < r + 1) ↔ (x = l ∨ x < r) := by omega
          simp only [this]
        have neI : ∀ x, x ≠ r → spI D I l rc i (r + 1) x = spI D I l rc i r x := fun x hx => by
          unfold spI
          have : (x = l ∨ x < r + 1) ↔ (x = l ∨ x < r) := by omega
          simp only [this]
        have atD : spD D l rc (r + 1) r = dkWrite (D r) rc := by unfold spD; exact if_pos (by omega)
        cases hu : dkU (D r)
        · -- down
          have wd : dkWrite (D r) rc = D r := dkWrite_down hu
          have hd1 : dsAt h N (spI D I l rc i (r + 1)) s (spD D l rc (r + 1)) := by
            intro x hx
            by_cases ex : x = r
            · rw [ex, atD, wd]
              have : spI D I l rc i (r + 1) r = I r := by
                unfold spI
                rw [wd, hu]
                exact if_neg (by simp)
              rw [this]; exact hdr
            · rw [neD x ex, neI x ex]; exact hd x hx
          obtain ⟨h1, e1, f1, a1⟩ := w_spread_go hs hZ hl hN hI hok hi k (r + 1) n h H hz hd1 hrc (by omega) (by omega)
          refine ⟨h1, ?_, f1, a1⟩
          rw [hc9, if_neg (by rw [wd, hu]; simp), Nat.add_zero] at e1
          have hup : zE h 642 (5 * s + r) = 0 := by rw [hdr.1.1, hu]; rfl
          simp only [f_X11_spread_21, f_X11_spread_69, o10, o00, bh, isO, inR, ck_true, bind_some9, Nat.reduceLeDiff, Nat.reduceEqDiff, and_self, and_true, true_and, false_and, and_false, not_false_eq_true, not_true_eq_false, or_self, or_false, false_or, if_true, if_false, reduceIte, RF_o H, RF_1234 H, RO_642 H, RL_642 H, RF_1236 H, RO_644 H, RL_644 H, zR_pE, zT_pE, zL_pE, zn_pE, zE_pE, zI_pE, zR_pI, zT_pI, zL_pI, zn_pI, zE_pI, zI_pI, nx, gx, lx, hz, c1, cl, zi_five, n2, g2, l2, hup, zi_one]
          exact e1
        · have hup : ¬ zE h 642 (5 * s + r) = 0 := by
            rw [hdr.1.1, hu, if_pos rfl]; decide
          obtain ⟨ht, hF⟩ := hok r hr5 hu
          obtain ⟨h2, e2, f2, a2⟩ := w_write H (by omega) hdr hu hF ⟨hi, hrc⟩ hN (hI r hr5)
          have f2s : frx (dsS s) h h2 := f2.mono (fun a j q => ⟨r, hr5, q⟩)
          have hd1 : dsAt h2 N (spI D I l rc i (r + 1)) s (spD D l rc (r + 1)) := by
            refine dsAt.one hd hr5 f2 ?_ neI neD
            rw [atD]
            have : spI D I l rc i (r + 1) r = if dkU (dkWrite (D r) rc) = true then I r ++ [i] else I r := by
              unfold spI
              by_cases cu : dkU (dkWrite (D r) rc) = true
              · rw [if_pos ⟨by omega, cu⟩, if_pos cu]
              · rw [if_neg (fun q => cu q.2), if_neg cu]
            rw [this]
            exact a2
          have hz2 : zE h2 644 s = nI Z := by rw [f2.2.2.2 644 s (by unfold dkS; omega)]; exact hz
          have hrc2 : rcAt h2 i rc := hrc.on f2s (fun a => dsS_rec s a i)
          obtain ⟨h1, e1, f1, a1⟩ := w_spread_go hs hZ hl hN hI hok hi k (r + 1) n h2 (H.on f2) hz2 hd1 hrc2 (by omega) (by omega)
          refine ⟨h1, ?_, f2s.trans f1, a1⟩
          cases hw : dkU (dkWrite (D r) rc)
          · rw [hw] at e2
            rw [hc9, if_neg (by rw [hw]; simp), Nat.add_zero] at e1
            simp only [f_X11_spread_21, f_X11_spread_69, o10, o00, bh, isO, inR, ck_true, bind_some9, Nat.reduceLeDiff, Nat.reduceEqDiff, and_self, and_true, true_and, false_and, and_false, not_false_eq_true, not_true_eq_false, or_self, or_false, false_or, if_true, if_false, reduceIte, RF_o H, RF_1234 H, RO_642 H, RL_642 H, RF_1236 H, RO_644 H, RL_644 H, zR_pE, zT_pE, zL_pE, zn_pE, zE_pE, zI_pE, zR_pI, zT_pI, zL_pI, zn_pI, zE_pI, zI_pI, nx, gx, lx, hz, c1, cl, zi_five, n2, g2, l2, hup, e2, Bool.false_eq_true, zi_one]
            exact e1
          · rw [hw] at e2
            rw [hc9, if_pos (by rw [hw]; simp [e])] at e1
            have o1 : ¬ (1 : Int32) = 0 := by decide
            simp only [f_X11_spread_21, f_X11_spread_69, o10, o00, bh, isO, inR, ck_true, bind_some9, Nat.reduceLeDiff, Nat.reduceEqDiff, and_self, and_true, true_and, false_and, and_false, not_false_eq_true, not_true_eq_false, or_self, or_false, false_or, if_true, if_false, reduceIte, RF_o H, RF_1234 H, RO_642 H, RL_642 H, RF_1236 H, RO_644 H, RL_644 H, zR_pE, zT_pE, zL_pE, zn_pE, zE_pE, zI_pE, zR_pI, zT_pI, zL_pI, zn_pI, zE_pI, zI_pI, nx, gx, lx, hz, c1, cl, zi_five, n2, g2, l2, hup, e2, o1, zi_one]
            exact e1
theorem spD_zero (D : Nat → Dk) (l : Nat) (rc : Rec) : spD D l rc 0 = upf D l (dkWrite (D l) rc) := by
  funext x
  unfold spD upf
  by_cases e : x = l
  · rw [if_pos (by omega), if_pos e, e]
  · rw [if_neg (by omega), if_neg e]
theorem w_spread {h : Hp} (H : RF h) {N s l Z i : Nat} {I : Nat → List Nat} {D : Nat → Dk} {rc : Rec} (hs : s < 4) (hZ : Z ≤ 5) (hl : l < Z) (hN : N ≤ 60000) (hz : zE h 644 s = nI Z) (hd : dsAt h N I s D) (hI : ∀ r, r < 5 → (I r).length < 8191) (hok : ∀ r, r < 5 → dkOK (D r)) (hul : dkU (D l) = true) (hi : i < N) (hrc : rcAt h i rc) :
    (dkU (dkWrite (D l) rc) = false ∧ ∃ h1, f_X11_spread 616 (nI s) (nI l) (nI i) h = some (0, h1) ∧ frx (dsS s) h h1 ∧ dsAt h1 N I s (upf D l (dkWrite (D l) rc))) ∨
    (dkU (dkWrite (D l) rc) = true ∧ ∃ h1, f_X11_spread 616 (nI s) (nI l) (nI i) h = some (if Z < 2 * ((List.range Z).filter (fun x => dkU (spD D l rc Z x))).length then 1 else 0, h1) ∧ frx (dsS s) h h1 ∧ dsAt h1 N (spI D I l rc i Z) s (spD D l rc Z)) := by
  have hl5 : l < 5 := by omega
  obtain ⟨ht, hF⟩ := hok l hl5 hul
  obtain ⟨h2, e2, f2, a2⟩ := w_write H (by omega) (hd l hl5) hul hF ⟨hi, hrc⟩ hN (hI l hl5)
  have f2s : frx (dsS s) h h2 := f2.mono (fun a j q => ⟨l, hl5, q⟩)
  cases hw : dkU (dkWrite (D l) rc)
  · left
    rw [hw, if_neg (by simp)] at a2 e2
    refine ⟨rfl, h2, ?_, f2s, ?_⟩
    · simp only [f_X11_spread, o10, o00, bh, isO, inR, ck_true, bind_some9, Nat.reduceLeDiff, Nat.reduceEqDiff, and_self, and_true, true_and, false_and, and_false, not_false_eq_true, not_true_eq_false, or_self, or_false, false_or, if_true, if_false, reduceIte, RF_o H, zR_pE, zT_pE, zL_pE, zn_pE, zE_pE, zI_pE, zR_pI, zT_pI, zL_pI, zn_pI, zE_pI, zI_pI, zi_five, e2]
    · refine dsAt.one hd hl5 f2 ?_ (fun _ _ => rfl) (fun x hx => if_neg hx)
      rw [show upf D l (dkWrite (D l) rc) l = dkWrite (D l) rc from if_pos rfl]
      exact a2
  · right
    rw [hw, if_pos rfl] at a2 e2
    have hd1 : dsAt h2 N (spI D I l rc i 0) s (spD D l rc 0) := by
      refine dsAt.one hd hl5 f2 ?_ (fun x hx => ?_) (fun x hx => ?_)
      · have e1 : spD D l rc 0 l = dkWrite (D l) rc := by unfold spD; exact if_pos (Or.inl rfl)
        have e3 : spI D I l rc i 0 l = I l ++ [i] := by unfold spI; exact if_pos ⟨Or.inl rfl, hw⟩
        rw [e1, e3]; exact a2
      · unfold spI; exact if_neg (by omega)
      · unfold spD; exact if_neg (by omega)
    have hz2 : zE h2 644 s = nI Z := by rw [f2.2.2.2 644 s (by unfold dkS; omega)]; exact hz
    have hrc2 : rcAt h2 i rc := hrc.on f2s (fun a => dsS_rec s a i)
    obtain ⟨h1, e1, f1, a1⟩ := w_spread_go hs hZ hl hN hI hok hi Z 0 fz h2 (H.on f2) hz2 hd1 hrc2 (by omega) (fz_big (by omega))
    refine ⟨rfl, h1, ?_, f2s.trans f1, a1⟩
    have o1 : ¬ (1 : Int32) = 0 := by decide
    have cb := cnt_but (fun x => dkU (dkWrite (D x) rc)) l hw Z 0 (by omega) (by omega)
    have ce : (List.range Z).filter (fun x => dkU (spD D l rc Z x)) = (List.range' 0 Z).filter (fun x => dkU (dkWrite (D x) rc)) := by
      rw [List.range_eq_range']
      refine List.filter_congr (fun x hx => ?_)
      have := (List.mem_range'_1.mp hx).2
      unfold spD
      rw [if_pos (by omega)]
    rw [ce, cb]
    have e0 : nI (((List.range' 0 0).filter (fun x => decide (x ≠ l) && dkU (dkWrite (D x) rc))).length + 1) = 1 := rfl
    rw [e0] at e1
    simp only [f_X11_spread, o10, o00, bh, isO, inR, ck_true, bind_some9, Nat.reduceLeDiff, Nat.reduceEqDiff, and_self, and_true, true_and, false_and, and_false, not_false_eq_true, not_true_eq_false, or_self, or_false, false_or, if_true, if_false, reduceIte, RF_o H, zR_pE, zT_pE, zL_pE, zn_pE, zE_pE, zI_pE, zR_pI, zT_pI, zL_pI, zn_pI, zE_pI, zI_pI, zi_five, e2, o1]
    exact e1
/-! WHAT A SHARD'S DISKS AND LEADER ARE -/
/-- numbers tell records apart as the records do -/
def uqI (I : Nat → List Nat) (D : Nat → Dk) : Prop := ∀ x y, x < 5 → y < 5 → idsOf (I x) (I y) (dkL (D x)) (dkL (D y))
/-- replicas, leader, term, disks of shard s -/
def sdAt (h : Hp) (N : Nat) (I : Nat → List Nat) (s : Nat) (q : Shd) : Prop :=
  (zE h 644 s = nI (shZ q) ∧ zE h 645 s = shL q ∧ zE h 646 s = nI (shT q)) ∧ (3 ≤ shZ q ∧ shZ q ≤ 5 ∧ shT q < 60000) ∧ dsAt h N I s (shD q) ∧ uqI I (shD q) ∧ ∀ r, r < 5 → dkOK (shD q r)
/-- a record that is new at its place -/
theorem uq_spread {I : Nat → List Nat} {D : Nat → Dk} {l Z i : Nat} {rc : Rec} (hu : uqI I D) (hZ : Z ≤ 5) (hl : l < Z) (hul : dkU (D l) = true) (hal : ∀ x, x < Z → dkU (D x) = true → dkL (D x) = dkL (D l)) (hnew : ∀ x, x < 5 → ∀ j ∈ I x, j ≠ i) (hfr : ∀ x, x < 5 → ∀ r, (dkL (D x))[(dkL (D l)).length]? = some r → r ≠ rc) : uqI (spI D I l rc i Z) (spD D l rc Z) := by
  have key : ∀ x, x < 5 → (spI D I l rc i Z x = I x ∧ dkL (spD D l rc Z x) = dkL (D x)) ∨ (spI D I l rc i Z x = I x ++ [i] ∧ dkL (spD D l rc Z x) = dkL (D x) ++ [rc] ∧ dkL (D x) = dkL (D l)) := fun x hx => by
    unfold spI spD
    by_cases c : x = l ∨ x < Z
    · rw [if_pos c]
      rcases dkWrite_or (D x) rc with ⟨u1, u2, e1⟩ | ⟨u1, e1⟩
      · right
        refine ⟨if_pos ⟨c, u1⟩, e1, ?_⟩
        rcases c with c | c
        · rw [c]
        · exact hal x c u2
      · left
        exact ⟨if_neg (fun q => by rw [u1] at q; cases q.2), e1⟩
    · rw [if_neg c, if_neg (fun q => c q.1)]
      exact Or.inl ⟨rfl, rfl⟩
  have at9 : ∀ (A : List Nat) (L : List Rec) (k j : Nat) (a : Rec), A.length = L.length → (A ++ [i])[k]? = some j → (L ++ [rc])[k]? = some a → (A[k]? = some j ∧ L[k]? = some a) ∨ (k = L.length ∧ j = i ∧ a = rc) := fun A L k j a hA h1 h2 => by
    by_cases c : k < A.length
    · rw [List.getElem?_append_left c] at h1
      rw [List.getElem?_append_left (by omega)] at h2
      exact Or.inl ⟨h1, h2⟩
    · have h3 := (List.getElem?_eq_some_iff.mp h1).1
      rw [List.length_append] at h3
      simp at h3
      have ek : k = A.length := by omega
      rw [ek, List.getElem?_append_right (Nat.le_refl _), Nat.sub_self] at h1
      rw [ek, hA, List.getElem?_append_right (Nat.le_refl _), Nat.sub_self] at h2
      exact Or.inr ⟨by omega, (Option.some.inj h1).symm, (Option.some.inj h2).symm⟩
  intro x y hx hy
  obtain ⟨g1, g2, g3⟩ := hu x y hx hy
  rcases key x hx with ⟨a1, a2⟩ | ⟨a1, a2, a3⟩ <;> rcases key y hy with ⟨b1, b2⟩ | ⟨b1, b2, b3⟩
  · rw [a1, a2, b1, b2]; exact ⟨g1, g2, g3⟩
  · rw [a1, a2, b1, b2]
    refine ⟨g1, by rw [List.length_append, List.length_append, g2]; rfl, fun k p j a b h1 h2 h3 h4 => ?_⟩
    rcases at9 _ _ k j b g2 h2 h4 with ⟨h5, h6⟩ | ⟨h5, h6, h7⟩
    · exact g3 k p j a b h1 h5 h3 h6
    · refine ⟨fun q => absurd (q.trans h6) (hnew x hx p (List.mem_of_getElem? h1)), fun q => ?_⟩
      rw [h5, b3] at h3
      exact absurd (q.trans h7) (hfr x hx a h3)
  · rw [a1, a2, b1, b2]
    refine ⟨by rw [List.length_append, List.length_append, g1]; rfl, g2, fun k p j a b h1 h2 h3 h4 => ?_⟩
    rcases at9 _ _ k p a g1 h1 h3 with ⟨h5, h6⟩ | ⟨h5, h6, h7⟩
    · exact g3 k p j a b h5 h2 h6 h4
    · refine ⟨fun q => absurd (q.symm.trans h6) (hnew y hy j (List.mem_of_getElem? h2)), fun q => ?_⟩
      rw [h5, a3] at h4
      exact absurd (q.symm.trans h7) (hfr y hy b h4)
  · rw [a1, a2, b1, b2]
    refine ⟨by rw [List.length_append, List.length_append, g1]; rfl, by rw [List.length_append, List.length_append, g2]; rfl, fun k p j a b h1 h2 h3 h4 => ?_⟩
    rcases at9 _ _ k p a g1 h1 h3 with ⟨h5, h6⟩ | ⟨h5, h6, h7⟩ <;> rcases at9 _ _ k j b g2 h2 h4 with ⟨i5, i6⟩ | ⟨i5, i6, i7⟩
    · exact g3 k p j a b h5 i5 h6 i6
    · have := (List.getElem?_eq_some_iff.mp h6).1
      rw [a3] at this; rw [b3] at i5
      omega
    · have := (List.getElem?_eq_some_iff.mp i6).1
      rw [b3] at this; rw [a3] at h5
      omega
    · rw [h6, i6, h7, i7]; exact ⟨fun _ => rfl, fun _ => rfl⟩
/-! THE REFERENCE'S HISTORIES -/
/-- the events of the workflow w, by their records' numbers E -/
def evsAt (h : Hp) (N w : Nat) (E : List Nat) (es : List Evt) : Prop := zE h 649 w = nI es.length ∧ (E.length = es.length ∧ es.length ≤ 60) ∧ (∀ (k i : Nat), E[k]? = some i → zE h 648 (60 * w + k) = nI i) ∧ ∀ (k i : Nat) (e : Evt), E[k]? = some i → es[k]? = some e → ∃ n t, n < 16 ∧ e.1 < 16 ∧ idAt h N i (n, e.1, t, e.2.1, e.2.2.1, e.2.2.2)
/-- where they lie -/
def evS (w : Nat) (a j : Nat) : Prop := a = 649 ∧ j = w ∨ a = 648 ∧ j / 60 = w
theorem evsAt.on {S : Nat → Nat → Prop} {h h1 : Hp} {N w : Nat} {E : List Nat} {es : List Evt} (q : evsAt h N w E es) (p : frx S h h1) (hs : ∀ a i, i < N → ¬ S a i ∨ a < 633 ∨ 637 < a) (hx : ∀ a j, evS w a j → ¬ S a j) : evsAt h1 N w E es := by
  obtain ⟨q1, ⟨q2, q3⟩, q4, q5⟩ := q
  refine ⟨by rw [p.2.2.2 _ _ (hx 649 w (Or.inl ⟨rfl, rfl⟩))]; exact q1, ⟨q2, q3⟩, fun k i hk => ?_, fun k i e hk he => ?_⟩
  · have hk1 := (List.getElem?_eq_some_iff.mp hk).1
    rw [p.2.2.2 _ _ (hx 648 (60 * w + k) (Or.inr ⟨rfl, by omega⟩))]
    exact q4 k i hk
  · obtain ⟨n, t, h1, h2, h3⟩ := q5 k i e hk he
    exact ⟨n, t, h1, h2, h3.on p hs⟩
theorem zi_60 (w k : Nat) : (60 : Int32) * nI w + nI k = nI (60 * w + k) := by rw [show (60 : Int32) = nI 60 from rfl, zi_mul, zi_add]
theorem zi_8 (w k : Nat) : (8 : Int32) * nI w + nI k = nI (8 * w + k) := by rw [show (8 : Int32) = nI 8 from rfl, zi_mul, zi_add]
/-- the k-th event's record -/
theorem evsAt.at {h : Hp} {N w k : Nat} {E : List Nat} {es : List Evt} (q : evsAt h N w E es) (hk : k < es.length) : ∃ i n t, i < N ∧ n < 16 ∧ (evAt es k).1 < 16 ∧ zE h 648 (60 * w + k) = nI i ∧ rcAt h i (n, (evAt es k).1, t, (evAt es k).2.1, (evAt es k).2.2.1, (evAt es k).2.2.2) := by
  obtain ⟨q1, ⟨q2, q3⟩, q4, q5⟩ := q
  have h1 : E[k]? = some (E[k]'(by omega)) := List.getElem?_eq_getElem (by omega)
  have h2 : es[k]? = some (evAt es k) := by
    unfold evAt; rw [List.getD_eq_getElem?_getD, List.getElem?_eq_getElem hk]; rfl
  obtain ⟨n, t, h3, h4, h5⟩ := q5 k _ _ h1 h2
  exact ⟨_, n, t, h5.1, h3, h4, q4 k _ h1, h5.2⟩
theorem w_event {h : Hp} (H : RF h) {w k i : Nat} (hw : w < 64) (hk : k < 60) (hi : zE h 648 (60 * w + k) = nI i) : f_X11_event 616 (nI w) (nI k) h = some (nI i, h) := by
  have n1 : (nI (60 * w + k)).toNatClampNeg = 60 * w + k := zi_nat (by omega)
  have g1 : ¬ nI (60 * w + k) < 0 := zi_neg (by omega)
  have l1 : ¬ 3840 ≤ 60 * w + k := by omega
  simp only [f_X11_event, o10, o00, bh, isO, inR, ck_true, bind_some9, Nat.reduceLeDiff, Nat.reduceEqDiff, and_self, and_true, true_and, false_and, and_false, not_false_eq_true, not_true_eq_false, or_self, or_false, false_or, if_true, if_false, reduceIte, RF_o H, RF_1240 H, RO_648 H, RL_648 H, zR_pE, zT_pE, zL_pE, zn_pE, zE_pE, zI_pE, zR_pI, zT_pI, zL_pI, zn_pI, zE_pI, zI_pI, zi_60, n1, g1, l1, hi]
theorem w_origin {h : Hp} (H : RF h) {N w : Nat} {E : List Nat} {es : List Evt} (hw : w < 64) (q : evsAt h N w E es) (h0 : 0 < es.length) (hN : N ≤ 60000) : f_X11_origin 616 (nI w) h = some (rpO es, h) := by
  obtain ⟨i, n, t, h1, h2, h3, h4, -, -, -, -, h5⟩ := q.at h0
  have n1 : (nI i).toNatClampNeg = i := zi_nat (by omega)
  have g1 : ¬ nI i < 0 := zi_neg (by omega)
  have l1 : ¬ 60000 ≤ i := by omega
  have e := w_event H hw (by omega : 0 < 60) h4
  rw [← zi_zero] at e
  simp only [f_X11_origin, o10, o00, bh, isO, inR, ck_true, bind_some9, Nat.reduceLeDiff, Nat.reduceEqDiff, and_self, and_true, true_and, false_and, and_false, not_false_eq_true, not_true_eq_false, or_self, or_false, false_or, if_true, if_false, reduceIte, RF_o H, RF_1229 H, RO_637 H, RL_637 H, zR_pE, zT_pE, zL_pE, zn_pE, zE_pE, zI_pE, zR_pI, zT_pI, zL_pI, zn_pI, zE_pI, zI_pI, RF_1229 H, RO_637 H, RL_637 H, e, n1, g1, l1, h5]
  rfl
theorem w_parent {h : Hp} (H : RF h) {N w : Nat} {E : List Nat} {es : List Evt} (hw : w < 64) (q : evsAt h N w E es) (h0 : 0 < es.length) (hN : N ≤ 60000) : f_X11_parent 616 (nI w) h = some (if rpO es < 0 then (-1 - rpO es) / 64 else -1, h) := by
  have e := w_origin H hw q h0 hN
  simp only [f_X11_parent, o10, o00, bh, isO, inR, ck_true, bind_some9, Nat.reduceLeDiff, Nat.reduceEqDiff, and_self, and_true, true_and, false_and, and_false, not_false_eq_true, not_true_eq_false, or_self, or_false, false_or, if_true, if_false, reduceIte, RF_o H, zR_pE, zT_pE, zL_pE, zn_pE, zE_pE, zI_pE, zR_pI, zT_pI, zL_pI, zn_pI, zE_pI, zI_pI, e]
  by_cases c : rpO es < 0
  · have c1 : ¬ (0 : Int32) ≤ rpO es := Int32.not_le.mpr c
    simp only [c, c1, if_true, if_false]
  · have c1 : (0 : Int32) ≤ rpO es := Int32.not_lt.mp c
    simp only [c, c1, if_true, if_false]
/-- where going through w writes -/
def gtS (w : Nat) (a j : Nat) : Prop := a = 616 ∧ (j = 1263 ∨ j = 1264 ∨ j = 1265 ∨ j = 1266 ∨ j = 1267) ∨ (a = 650 ∨ a = 651 ∨ a = 652 ∨ a = 654 ∨ a = 655 ∨ a = 656 ∨ a = 657 ∨ a = 658 ∨ a = 659) ∧ j = w ∨ a = 653 ∧ j / 8 = w
theorem gtS_rec (w : Nat) : ∀ a i, ¬ gtS w a i ∨ a < 633 ∨ 637 < a := fun a i => by unfold gtS; omega
theorem gtS_ev (w : Nat) : ∀ a j, evS w a j → ¬ gtS w a j := fun a j q => by unfold evS at q; unfold gtS; omega
theorem w_hasEnded {h : Hp} (H : RF h) {w i : Nat} {v : Int32} (hw : w < 64) (hi : i < 60000) (hv : zE h 635 i = v) : f_X11_hasEnded 616 (nI w) (nI i) h = some (pE (pE h 651 w 4) 652 w v) := by
  have nx : (nI w).toNatClampNeg = w := zi_nat (by omega)
  have gx : ¬ nI w < 0 := zi_neg (by omega)
  have lx : ¬ 64 ≤ w := by omega
  have n1 : (nI i).toNatClampNeg = i := zi_nat (by omega)
  have g1 : ¬ nI i < 0 := zi_neg (by omega)
  have l1 : ¬ 60000 ≤ i := by omega
  simp only [f_X11_hasEnded, o10, o00, bh, isO, inR, ck_true, bind_some9, Nat.reduceLeDiff, Nat.reduceEqDiff, and_self, and_true, true_and, false_and, and_false, not_false_eq_true, not_true_eq_false, or_self, or_false, false_or, if_true, if_false, reduceIte, RF_o H, RF_1227 H, RO_635 H, RL_635 H, RF_1243 H, RO_651 H, RL_651 H, RF_1244 H, RO_652 H, RL_652 H, zR_pE, zT_pE, zL_pE, zn_pE, zE_pE, zI_pE, zR_pI, zT_pI, zL_pI, zn_pI, zE_pI, zI_pI, nx, gx, lx, n1, g1, l1, hv]
theorem w_kind {h : Hp} (H : RF h) {i : Nat} {r : Rec} (hi : i < 60000) (hr : rcAt h i r) (h1 : rcK r < 16) (h2 : rcN r < 16) : f_X11_kindOf 616 (nI i) h = some (nI (rcK r), h) := x_kindOf H hi hr.1 h1 (by omega)
/-- the fields of the walk: step, seen, taken, born, walked; the locals -/
def gtF (h : Hp) (w p k t b g : Nat) (V : Nat → Int32) : Prop := (zI h 1263 616 = nI p ∧ zI h 1264 616 = nI k ∧ zI h 1265 616 = nI t ∧ zI h 1266 616 = nI b ∧ zI h 1267 616 = nI g) ∧ ∀ v, v < 8 → zE h 653 (8 * w + v) = V v
theorem gtF_seen {h : Hp} {w p k t b g : Nat} {V : Nat → Int32} (q : gtF h w p k t b g V) (k1 : Nat) : gtF (pI h 1264 616 (nI k1)) w p k1 t b g V := by
  obtain ⟨⟨q1, q2, q3, q4, q5⟩, q6⟩ := q
  refine ⟨⟨?_, ?_, ?_, ?_, ?_⟩, fun v hv => q6 v hv⟩ <;> simp only [zI_pI, Nat.reduceEqDiff, false_and, and_self, if_false, if_true] <;> assumption
/-- where waiting writes -/
def wtS (w : Nat) (a j : Nat) : Prop := a = 616 ∧ (j = 1264 ∨ j = 1265 ∨ j = 1267) ∨ (a = 651 ∨ a = 652) ∧ j = w ∨ a = 653 ∧ j / 8 = w
theorem wtS_rec (w : Nat) : ∀ a i, ¬ wtS w a i ∨ a < 633 ∨ 637 < a := fun a i => by unfold wtS; omega
theorem wtS_ev (w : Nat) : ∀ a j, evS w a j → ¬ wtS w a j := fun a j q => by unfold evS at q; unfold wtS; omega
theorem wtS_gt (w : Nat) : ∀ a j, wtS w a j → gtS w a j := fun a j q => by unfold wtS at q; unfold gtS; omega
