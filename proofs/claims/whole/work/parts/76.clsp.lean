/-! THE PARSER: characters, from a place on -/
def pk (T : List Int32) (a : Nat) : Int32 := T.getD a 0
def pTk (T : List Int32) (c : Int32) (a : Nat) : Bool × Nat := if pk T a = c then (true, a + 1) else (false, a)
def pDg (T : List Int32) : Nat → Int32 → Nat → Int32 × Nat
  | 0, v, a => (v, a)
  | n + 1, v, a => if pk T a < 48 ∨ 57 < pk T a then (v, a) else pDg T n (10 * v + pk T a - 48) (a + 1)
/-- a value: a letter, or a number -/
def pVl (T : List Int32) (a : Nat) : Bool × Nat × Int32 × Int32 :=
  if pk T a < 97 ∨ 104 < pk T a then
    (decide ((pTk T 45 a).2 < (pDg T 5 0 (pTk T 45 a).2).2), (pDg T 5 0 (pTk T 45 a).2).2, -1, if (pTk T 45 a).1 = true then -(pDg T 5 0 (pTk T 45 a).2).1 else (pDg T 5 0 (pTk T 45 a).2).1)
  else (true, a + 1, pk T a - 97, 0)
def pBr (T : List Int32) (a : Nat) : Bool × Nat × Int32 × Int32 :=
  if (pTk T 40 a).1 = false then (false, (pTk T 40 a).2, -1, 0)
  else if (pVl T (pTk T 40 a).2).1 = false then (false, (pVl T (pTk T 40 a).2).2.1, -1, 0)
  else ((pTk T 41 (pVl T (pTk T 40 a).2).2.1).1, (pTk T 41 (pVl T (pTk T 40 a).2).2.1).2, (pVl T (pTk T 40 a).2).2.2)
def pNm (T : List Int32) (last : Int32) (a : Nat) : Bool × Nat × Int32 := if pk T a < 48 ∨ last < pk T a then (false, a, 0) else (true, a + 1, pk T a - 48)
def q00 : StpQ := (0, 0, 0, (-1, 0), (-1, 0))
/-- a value, or two with a sign between -/
def pRk (T : List Int32) (a : Nat) (v : Int32) : Bool × Nat × StpQ × Nat :=
  if (pVl T a).1 = false then (false, (pVl T a).2.1, q00, 0)
  else if pk T (pVl T a).2.1 = 43 ∨ pk T (pVl T a).2.1 = 45 ∨ pk T (pVl T a).2.1 = 42 ∨ pk T (pVl T a).2.1 = 60 ∨ pk T (pVl T a).2.1 = 61 then
    ((pVl T ((pVl T a).2.1 + 1)).1, (pVl T ((pVl T a).2.1 + 1)).2.1, (pk T (pVl T a).2.1, v, 0, (pVl T a).2.2, (pVl T ((pVl T a).2.1 + 1)).2.2), 0)
  else (true, (pVl T a).2.1, (43, v, 0, (pVl T a).2.2, (-1, 0)), 0)
def pAC (T : List Int32) (a : Nat) (v c last : Int32) : Bool × Nat × StpQ × Nat :=
  if (pNm T last (a + 1)).1 = false then (false, (pNm T last (a + 1)).2.1, q00, 0)
  else ((pBr T (pNm T last (a + 1)).2.1).1, (pBr T (pNm T last (a + 1)).2.1).2.1, (c, v, (pNm T last (a + 1)).2.2, (pBr T (pNm T last (a + 1)).2.1).2.2, (-1, 0)), a + 1)
def pRs (T : List Int32) (a : Nat) (v : Int32) : Bool × Nat × StpQ × Nat :=
  if pk T a = 65 then pAC T a v 65 57 else if pk T a = 67 then pAC T a v 67 55
  else if pk T a = 74 then ((pBr T (a + 1)).1, (pBr T (a + 1)).2.1, (74, v, 0, (pBr T (a + 1)).2.2, (-1, 0)), 0)
  else if pk T a = 87 then (true, a + 1, (87, v, 0, (-1, 0), (-1, 0)), 0)
  else pRk T a v
/-- two values in brackets -/
def pTw (T : List Int32) (a : Nat) : Bool × Nat × StpQ × Nat :=
  if (pTk T 40 a).1 = false then (false, (pTk T 40 a).2, q00, 0)
  else if (pVl T (pTk T 40 a).2).1 = false then (false, (pVl T (pTk T 40 a).2).2.1, q00, 0)
  else if (pTk T 44 (pVl T (pTk T 40 a).2).2.1).1 = false then (false, (pTk T 44 (pVl T (pTk T 40 a).2).2.1).2, q00, 0)
  else if (pVl T (pTk T 44 (pVl T (pTk T 40 a).2).2.1).2).1 = false then (false, (pVl T (pTk T 44 (pVl T (pTk T 40 a).2).2.1).2).2.1, q00, 0)
  else ((pTk T 41 (pVl T (pTk T 44 (pVl T (pTk T 40 a).2).2.1).2).2.1).1, (pTk T 41 (pVl T (pTk T 44 (pVl T (pTk T 40 a).2).2.1).2).2.1).2, (83, 0, 0, (pVl T (pTk T 40 a).2).2.2, (pVl T (pTk T 44 (pVl T (pTk T 40 a).2).2.1).2).2.2), 0)
/-- a step, and where its digit stands -/
def pSt (T : List Int32) (a : Nat) : Bool × Nat × StpQ × Nat :=
  if pk T a < 97 ∨ 104 < pk T a then
    (if pk T a = 71 then ((pNm T 57 (a + 1)).1, (pNm T 57 (a + 1)).2.1, (71, 0, (pNm T 57 (a + 1)).2.2, (-1, 0), (-1, 0)), a + 1)
    else if pk T a = 73 then
      (if (pBr T (a + 1)).1 = false then (false, (pBr T (a + 1)).2.1, q00, 0)
      else ((pNm T 57 (pBr T (a + 1)).2.1).1, (pNm T 57 (pBr T (a + 1)).2.1).2.1, (73, 0, (pNm T 57 (pBr T (a + 1)).2.1).2.2, (pBr T (a + 1)).2.2, (-1, 0)), (pBr T (a + 1)).2.1))
    else if pk T a = 83 then pTw T (a + 1)
    else if pk T a = 84 ∨ pk T a = 69 then ((pBr T (a + 1)).1, (pBr T (a + 1)).2.1, (pk T a, 0, 0, (pBr T (a + 1)).2.2, (-1, 0)), 0)
    else (false, a, q00, 0))
  else if (pTk T 61 (a + 1)).1 = false then (false, (pTk T 61 (a + 1)).2, q00, 0)
  else pRs T (pTk T 61 (a + 1)).2 (pk T a - 97)
def pLb (T : List Int32) (L : Nat → Int32) (n a : Nat) : Bool × Nat × (Nat → Int32) :=
  if pk T a < 48 ∨ 57 < pk T a then (true, a, L)
  else if L (pk T a - 48).toNatClampNeg = -1 then ((pTk T 58 (a + 1)).1, (pTk T 58 (a + 1)).2, upf L (pk T a - 48).toNatClampNeg (nI n)) else (false, a, L)
/-- the steps, one behind the other -/
def pLp (T : List Int32) : Nat → List (StpQ × Nat) → (Nat → Int32) → Nat → Bool × Nat × List (StpQ × Nat) × (Nat → Int32)
  | 0, Q, L, a => (false, a, Q, L)
  | k + 1, Q, L, a =>
    if T.length ≤ a then (true, a, Q, L) else if Q.length = 60 then (false, a, Q, L)
    else if (pLb T L Q.length a).1 = false then (false, (pLb T L Q.length a).2.1, Q, (pLb T L Q.length a).2.2)
    else if (pSt T (pLb T L Q.length a).2.1).1 = false then (false, (pSt T (pLb T L Q.length a).2.1).2.1, Q, (pLb T L Q.length a).2.2)
    else if (pTk T 59 (pSt T (pLb T L Q.length a).2.1).2.1).1 = false then (false, (pTk T 59 (pSt T (pLb T L Q.length a).2.1).2.1).2, Q, (pLb T L Q.length a).2.2)
    else pLp T k (Q ++ [((pSt T (pLb T L Q.length a).2.1).2.2.1, (pSt T (pLb T L Q.length a).2.1).2.2.2)]) (pLb T L Q.length a).2.2 (pTk T 59 (pSt T (pLb T L Q.length a).2.1).2.1).2
def jmp (q : StpQ) : Bool := decide (q.1 = 73) || decide (q.1 = 71)
/-- the first that has no label -/
def pLk (L : Nat → Int32) (Q : List (StpQ × Nat)) : Option Nat := (Q.find? (fun q => jmp q.1 && decide (L q.1.2.2.1.toNatClampNeg = -1))).map (fun q => q.2)
def lnk (L : Nat → Int32) (q : StpQ) : StpQ := if jmp q = true then (q.1, L q.2.2.1.toNatClampNeg, q.2.2) else q
/-- the place of a fault (-1: none), and the program -/
def prs (T : List Int32) : Int32 × Prg :=
  if (pLp T 61 [] (fun _ => -1) 0).1 = false then (nI (pLp T 61 [] (fun _ => -1) 0).2.1, [])
  else match pLk (pLp T 61 [] (fun _ => -1) 0).2.2.2 (pLp T 61 [] (fun _ => -1) 0).2.2.1 with
    | some d => (nI d, [])
    | none => (-1, (pLp T 61 [] (fun _ => -1) 0).2.2.1.map (fun q => lnk (pLp T 61 [] (fun _ => -1) 0).2.2.2 q.1))
/-! How far it comes -/
def txt (T : List Int32) : Prop := T.length ≤ 300 ∧ ∀ c ∈ T, ∃ x : Nat, 33 ≤ x ∧ x ≤ 126 ∧ c = nI x
theorem pk_end {T : List Int32} {a : Nat} (h : T.length ≤ a) : pk T a = 0 := by
  unfold pk
  rw [List.getD_eq_getElem?_getD, List.getElem?_eq_none h]
  rfl
theorem pk_iq {T : List Int32} (hT : txt T) {a : Nat} (h : a < T.length) : ∃ x : Nat, 33 ≤ x ∧ x ≤ 126 ∧ pk T a = nI x ∧ T[a]? = some (nI x) := by
  have e : T[a]? = some (T[a]'h) := List.getElem?_eq_getElem h
  obtain ⟨x, x1, x2, x3⟩ := hT.2 _ (List.getElem_mem h)
  refine ⟨x, x1, x2, ?_, by rw [e, x3]⟩
  unfold pk
  rw [List.getD_eq_getElem?_getD, e, ← x3]
  rfl
theorem pk_nat {T : List Int32} (hT : txt T) (a : Nat) : ∃ x : Nat, x ≤ 126 ∧ pk T a = nI x ∧ (x = 0 ∨ 33 ≤ x ∧ a < T.length) := by
  by_cases h : a < T.length
  · obtain ⟨x, x1, x2, x3, -⟩ := pk_iq hT h
    exact ⟨x, x2, x3, Or.inr ⟨x1, h⟩⟩
  · exact ⟨0, by omega, pk_end (by omega), Or.inl rfl⟩
/-- behind a character that is none of 0, the place is inside -/
theorem pk_lq {T : List Int32} {a : Nat} {c : Int32} (hc : c ≠ 0) (h : pk T a = c) : a < T.length := by
  by_cases z : a < T.length
  · exact z
  · rw [pk_end (by omega)] at h
    exact absurd h.symm hc
theorem pTk_le {T : List Int32} {c : Int32} (hc : c ≠ 0) {a : Nat} (h : a ≤ T.length) : a ≤ (pTk T c a).2 ∧ (pTk T c a).2 ≤ T.length := by
  unfold pTk
  split
  · next z =>
    have := pk_lq hc z
    exact ⟨by show a ≤ a + 1; omega, this⟩
  · exact ⟨Nat.le_refl _, h⟩
theorem pk_ge {T : List Int32} {a : Nat} {c : Int32} (hc : 0 < c) (h : ¬ pk T a < c) : a < T.length := by
  by_cases z : a < T.length
  · exact z
  · rw [pk_end (by omega)] at h
    exact absurd hc h
theorem pDg_le {T : List Int32} : ∀ (n : Nat) (v : Int32) (a : Nat), a ≤ T.length → a ≤ (pDg T n v a).2 ∧ (pDg T n v a).2 ≤ T.length
  | 0, v, a, h => ⟨Nat.le_refl _, h⟩
  | n + 1, v, a, h => by
    unfold pDg
    split
    · exact ⟨Nat.le_refl _, h⟩
    · next z =>
      have := pk_ge (T := T) (a := a) (c := 48) (by decide) (fun y => z (Or.inl y))
      have := pDg_le (T := T) n (10 * v + pk T a - 48) (a + 1) this
      exact ⟨by omega, this.2⟩
theorem pVl_le {T : List Int32} {a : Nat} (h : a ≤ T.length) : a ≤ (pVl T a).2.1 ∧ (pVl T a).2.1 ≤ T.length := by
  unfold pVl
  split
  · have h1 := pTk_le (c := 45) (by decide) h
    have h2 := pDg_le (T := T) 5 0 _ h1.2
    exact ⟨Nat.le_trans h1.1 h2.1, h2.2⟩
  · next z =>
    have := pk_ge (T := T) (a := a) (c := 97) (by decide) (fun y => z (Or.inl y))
    exact ⟨by show a ≤ a + 1; omega, this⟩
/-! THE PARSER OF THE CLASS: characters, values -/
def tpT (h : Hp) (T : List Int32) : Prop := (isO h 9 4 ∧ zR h 400 9 = 10 ∧ zR h 401 9 = 11 ∧ zR h 402 9 = 12) ∧ (isO h 10 21 ∧ zL h 10 = 300) ∧ (isO h 11 22 ∧ zL h 11 = 480) ∧ (isO h 12 22 ∧ zL h 12 = 10) ∧ zI h 403 9 = nI T.length ∧ txt T ∧ ∀ (k : Nat) (c : Int32), T[k]? = some c → zE h 10 k = c
theorem tpT.on {h h1 : Hp} {T : List Int32} {S : Nat → Nat → Prop} (q : tpT h T) (f : cf S h h1) (h9 : ∀ j, 400 ≤ j → j ≤ 403 → ¬ S 9 j) (h10 : ∀ j, ¬ S 10 j) : tpT h1 T := by
  obtain ⟨⟨o, r0, r1, r2⟩, ⟨o10, l10⟩, ⟨o11, l11⟩, ⟨o12, l12⟩, e3, t, c⟩ := q
  exact ⟨⟨f.O o, (f.R o (h9 _ (by omega) (by omega))).trans r0, (f.R o (h9 _ (by omega) (by omega))).trans r1, (f.R o (h9 _ (by omega) (by omega))).trans r2⟩, ⟨f.O o10, (f.L o10).trans l10⟩, ⟨f.O o11, (f.L o11).trans l11⟩, ⟨f.O o12, (f.L o12).trans l12⟩, (f.I o (h9 _ (by omega) (by omega))).trans e3, t, fun k x hk => (f.E o10 (h10 k)).trans (c k x hk)⟩
def atC (h : Hp) (T : List Int32) (a : Nat) : Prop := tpT h T ∧ zI h 404 9 = nI a ∧ a ≤ T.length
def paS (B x j : Nat) : Prop := (x = 9 ∧ j = 404) ∨ (x = 11 ∧ B ≤ j ∧ j < B + 8)
def pcf (B : Nat) (h h1 : Hp) : Prop := cf (paS B) h h1 ∧ nz h h1
theorem pcf.rf (B : Nat) (h : Hp) : pcf B h h := ⟨cf.rf h, rfl⟩
theorem pcf.tr {B : Nat} {h h1 h2 : Hp} (p : pcf B h h1) (q : pcf B h1 h2) : pcf B h h2 := ⟨p.1.tr q.1, q.2.trans p.2⟩
theorem isC_nat {x : Nat} (hx : x ≤ 126) : isC (nI x) = True := by
  have : ∀ x, x < 127 → (nI x).toUInt32.toUInt16.toUInt32.toInt32 = nI x := by decide
  exact eq_true (congrArg Value.int (this x (by omega)))
section P
variable {h : Hp} {T : List Int32} {a B : Nat}
theorem atC.step (q : atC h T a) {a1 : Nat} (h1 : a1 ≤ T.length) : atC (pI h 404 9 (nI a1)) T a1 ∧ pcf B h (pI h 404 9 (nI a1)) := by
  have f : cf (paS B) h (pI h 404 9 (nI a1)) := cf_pI (Or.inl ⟨rfl, rfl⟩)
  exact ⟨⟨q.1.on f (fun j _ _ z => by unfold paS at z; omega) (fun j z => by unfold paS at z; omega), by rw [zI_pI, if_pos ⟨rfl, rfl⟩], h1⟩, f, rfl⟩
theorem c_peek (q : atC h T a) : f_X3_peek 9 h = some (pk T a, h) := by
  obtain ⟨⟨⟨o, r0, r1, r2⟩, ⟨o10, l10⟩, -, -, e3, t, c⟩, e4, ha⟩ := q
  have tl := t.1
  by_cases z : a < T.length
  · obtain ⟨x, x1, x2, x3, x4⟩ := pk_iq t z
    have le : (nI T.length ≤ nI a) = False := eq_false (zi_le0 (by omega) (by omega) (by omega))
    have na : (nI a).toNatClampNeg = a := zi_nat (by omega)
    have ga : ¬ nI a < 0 := zi_neg (by omega)
    have la : ¬ 300 ≤ a := by omega
    have ec := c a _ x4
    have ic := isC_nat x2
    rw [x3]
    simp only [f_X3_peek, o10, o00, bh, isO, inR, ck_true, bind_some9, Nat.reduceLeDiff, Nat.reduceEqDiff, and_self, and_true, true_and, false_and, and_false, not_false_eq_true, not_true_eq_false, or_self, or_false, false_or, if_true, if_false, reduceIte, zR_pE, zT_pE, zL_pE, zn_pE, zE_pE, zI_pE, zQ_pE, zJ_pE, zR_pI, zT_pI, zL_pI, zn_pI, zE_pI, zI_pI, zQ_pI, zJ_pI, zR_pR, zT_pR, zL_pR, zn_pR, zE_pR, zI_pR, zQ_pR, zJ_pR, zR_pJ, zT_pJ, zL_pJ, zn_pJ, zE_pJ, zI_pJ, zQ_pJ, zJ_pJ, o, e3, e4, le, r0, o10, l10, na, ga, la, ec, ic]
  · rw [pk_end (by omega)]
    have le : (nI T.length ≤ nI a) = True := eq_true ((zi_le (by omega) (by omega)).mpr (by omega))
    simp only [f_X3_peek, o10, o00, bh, isO, inR, ck_true, bind_some9, Nat.reduceLeDiff, Nat.reduceEqDiff, and_self, and_true, true_and, false_and, and_false, not_false_eq_true, not_true_eq_false, or_self, or_false, false_or, if_true, if_false, reduceIte, zR_pE, zT_pE, zL_pE, zn_pE, zE_pE, zI_pE, zQ_pE, zJ_pE, zR_pI, zT_pI, zL_pI, zn_pI, zE_pI, zI_pI, zQ_pI, zJ_pI, zR_pR, zT_pR, zL_pR, zn_pR, zE_pR, zI_pR, zQ_pR, zJ_pR, zR_pJ, zT_pJ, zL_pJ, zn_pJ, zE_pJ, zI_pJ, zQ_pJ, zJ_pJ, o, e3, e4, le]
theorem c_accept (q : atC h T a) {c : Int32} (hc : c ≠ 0) : ∃ h1, f_X3_accept 9 c h = some (if (pTk T c a).1 = true then 1 else 0, h1) ∧ atC h1 T (pTk T c a).2 ∧ pcf B h h1 ∧ zE h1 = zE h := by
  obtain ⟨⟨⟨o, r0, r1, r2⟩, ⟨o10, l10⟩, -, -, e3, t, cc⟩, e4, ha⟩ := id q
  have tl := t.1
  have e0 : nI a + (0 : Int32) = nI a := Int32.add_zero _
  have no : ¬ pk T a = c → ∃ h1, f_X3_accept 9 c h = some (0, h1) ∧ atC h1 T a ∧ pcf B h h1 ∧ zE h1 = zE h := fun hn => by
    obtain ⟨s1, s2⟩ := q.step (B := B) ha
    refine ⟨_, ?_, s1, s2, rfl⟩
    by_cases z : a < T.length
    · obtain ⟨x, x1, x2, x3, x4⟩ := pk_iq t z
      have le : (nI T.length ≤ nI a) = False := eq_false (zi_le0 (by omega) (by omega) (by omega))
      have na : (nI a).toNatClampNeg = a := zi_nat (by omega)
      have ga : ¬ nI a < 0 := zi_neg (by omega)
      have la : ¬ 300 ≤ a := by omega
      have ec := cc a _ x4
      rw [x3] at hn
      simp only [f_X3_accept, f_X3_accept_28, f_X3_accept_29, o10, o00, bh, isO, inR, ck_true, bind_some9, Nat.reduceLeDiff, Nat.reduceEqDiff, and_self, and_true, true_and, false_and, and_false, not_false_eq_true, not_true_eq_false, or_self, or_false, false_or, if_true, if_false, reduceIte, zR_pE, zT_pE, zL_pE, zn_pE, zE_pE, zI_pE, zQ_pE, zJ_pE, zR_pI, zT_pI, zL_pI, zn_pI, zE_pI, zI_pI, zQ_pI, zJ_pI, zR_pR, zT_pR, zL_pR, zn_pR, zE_pR, zI_pR, zQ_pR, zJ_pR, zR_pJ, zT_pJ, zL_pJ, zn_pJ, zE_pJ, zI_pJ, zQ_pJ, zJ_pJ, o, e3, e4, le, r0, o10, l10, na, ga, la, ec, eq_false hn, e0, iB0]
    · have le : (nI T.length ≤ nI a) = True := eq_true ((zi_le (by omega) (by omega)).mpr (by omega))
      simp only [f_X3_accept, f_X3_accept_28, f_X3_accept_29, o10, o00, bh, isO, inR, ck_true, bind_some9, Nat.reduceLeDiff, Nat.reduceEqDiff, and_self, and_true, true_and, false_and, and_false, not_false_eq_true, not_true_eq_false, or_self, or_false, false_or, if_true, if_false, reduceIte, zR_pE, zT_pE, zL_pE, zn_pE, zE_pE, zI_pE, zQ_pE, zJ_pE, zR_pI, zT_pI, zL_pI, zn_pI, zE_pI, zI_pI, zQ_pI, zJ_pI, zR_pR, zT_pR, zL_pR, zn_pR, zE_pR, zI_pR, zQ_pR, zJ_pR, zR_pJ, zT_pJ, zL_pJ, zn_pJ, zE_pJ, zI_pJ, zQ_pJ, zJ_pJ, o, e3, e4, le, e0, iB0]
  unfold pTk
  by_cases hx : pk T a = c
  · rw [if_pos hx]
    have z := pk_lq hc hx
    obtain ⟨x, x1, x2, x3, x4⟩ := pk_iq t z
    have le : (nI T.length ≤ nI a) = False := eq_false (zi_le0 (by omega) (by omega) (by omega))
    have na : (nI a).toNatClampNeg = a := zi_nat (by omega)
    have ga : ¬ nI a < 0 := zi_neg (by omega)
    have la : ¬ 300 ≤ a := by omega
    have ec := cc a _ x4
    rw [x3] at hx
    obtain ⟨s1, s2⟩ := q.step (B := B) (a1 := a + 1) z
    refine ⟨_, ?_, s1, s2, rfl⟩
    simp only [f_X3_accept, f_X3_accept_28, f_X3_accept_29, o10, o00, bh, isO, inR, ck_true, bind_some9, Nat.reduceLeDiff, Nat.reduceEqDiff, and_self, and_true, true_and, false_and, and_false, not_false_eq_true, not_true_eq_false, or_self, or_false, false_or, if_true, if_false, reduceIte, zR_pE, zT_pE, zL_pE, zn_pE, zE_pE, zI_pE, zQ_pE, zJ_pE, zR_pI, zT_pI, zL_pI, zn_pI, zE_pI, zI_pI, zQ_pI, zJ_pI, zR_pR, zT_pR, zL_pR, zn_pR, zE_pR, zI_pR, zQ_pR, zJ_pR, zR_pJ, zT_pJ, zL_pJ, zn_pJ, zE_pJ, zI_pJ, zQ_pJ, zJ_pJ, o, e3, e4, le, r0, o10, l10, na, ga, la, ec, eq_true hx, zi_one, iB1, show ((1 : Int32) = 0) = False from eq_false (by decide)]
  · rw [if_neg hx]
    obtain ⟨h1, y1, y2, y3⟩ := no hx
    exact ⟨h1, y1, y2, y3⟩
theorem c_local (x : Int32) (g : Hp) : f_X3_isLocal x g = some (if x < 97 ∨ 104 < x then 0 else 1, g) := by
  unfold f_X3_isLocal
  by_cases c1 : x < 97
  · rw [if_pos c1, if_pos (Or.inl c1)]
  · rw [if_neg c1]
    by_cases c2 : (104 : Int32) < x
    · rw [if_pos c2, if_pos (Or.inr c2)]
    · rw [if_neg c2, if_neg (fun z => z.elim c1 c2)]
/-- a cell of the code -/
theorem atC.code (q : atC h T a) {j : Nat} (hj : B ≤ j ∧ j < B + 8) (x : Int32) : atC (pE h 11 j x) T a ∧ pcf B h (pE h 11 j x) := by
  have f : cf (paS B) h (pE h 11 j x) := cf_pE (S := paS B) (Or.inr ⟨rfl, hj⟩)
  exact ⟨⟨q.1.on f (fun j _ _ z => by unfold paS at z; omega) (fun j z => by unfold paS at z; omega), q.2.1, q.2.2⟩, f, rfl⟩
theorem c_val47 {s : Nat} (hs : B ≤ s ∧ s + 1 < B + 8) (hB : B + 8 ≤ 480) {neg : Bool} : ∀ (n d fuel : Nat) (v : Int32) (a : Nat) (h : Hp), atC h T a → d + n = 5 → n < fuel → ∃ h1, f_X3_readValue_47 fuel 9 (nI s) (if neg = true then 1 else 0) v (nI d) h = some (if 0 < d + ((pDg T n v a).2 - a) then 1 else 0, h1) ∧ atC h1 T (pDg T n v a).2 ∧ pcf B h h1 ∧ zE h1 11 (s + 1) = (if neg = true then -(pDg T n v a).1 else (pDg T n v a).1) ∧ ∀ j, j ≠ s + 1 → zE h1 11 j = zE h 11 j
  | n, d, 0, v, a, h, _, _, hf => absurd hf (Nat.not_lt_zero _)
  | n, d, fuel + 1, v, a, h, q, hd, hf => by
    have ns : nI s + (1 : Int32) = nI (s + 1) := zi_one s
    have n1 : (nI (s + 1)).toNatClampNeg = s + 1 := zi_nat (by omega)
    have g1 : ¬ nI (s + 1) < 0 := zi_neg (by omega)
    have l1 : ¬ 480 ≤ s + 1 := by omega
    obtain ⟨⟨⟨o, r0, r1, r2⟩, -, ⟨o11, l11⟩, -, e3, t, cc⟩, e4, ha⟩ := id q
    have k10 : ((1 : Int32) = 0) = False := eq_false (by decide)
    have fin : ∃ h1, f_X3_readValue_100 9 (nI s) (if neg = true then 1 else 0) v (nI d) h = some (if 0 < d then 1 else 0, h1) ∧ atC h1 T a ∧ pcf B h h1 ∧ zE h1 11 (s + 1) = (if neg = true then -v else v) ∧ ∀ j, j ≠ s + 1 → zE h1 11 j = zE h 11 j := by
      obtain ⟨s1, s2⟩ := q.code (B := B) (j := s + 1) (by omega) (if neg = true then -v else v)
      refine ⟨_, ?_, s1, s2, by rw [zE_pE, if_pos ⟨rfl, rfl⟩], fun j hj => by rw [zE_pE, if_neg (fun z => hj z.2)]⟩
      have dd : (nI d ≤ 0) = (d = 0) := by
        have := zi_le (a := d) (b := 0) (by omega) (by omega)
        exact propext ⟨fun z => by have := this.mp z; omega, fun z => this.mpr (by omega)⟩
      cases neg with
      | false =>
        have hb : (if false = true then (1 : Int32) else 0) = 0 := rfl
        have hb2 : (if false = true then -v else v) = v := rfl
        rw [hb, hb2]
        by_cases z : d = 0
        · rw [if_neg (by omega)]
          simp only [f_X3_readValue_100, o10, o00, bh, isO, inR, ck_true, bind_some9, Nat.reduceLeDiff, Nat.reduceEqDiff, and_self, and_true, true_and, false_and, and_false, not_false_eq_true, not_true_eq_false, or_self, or_false, false_or, if_true, if_false, reduceIte, zR_pE, zT_pE, zL_pE, zn_pE, zE_pE, zI_pE, zQ_pE, zJ_pE, zR_pI, zT_pI, zL_pI, zn_pI, zE_pI, zI_pI, zQ_pI, zJ_pI, zR_pR, zT_pR, zL_pR, zn_pR, zE_pR, zI_pR, zQ_pR, zJ_pR, zR_pJ, zT_pJ, zL_pJ, zn_pJ, zE_pJ, zI_pJ, zQ_pJ, zJ_pJ, o, r1, o11, l11, ns, n1, g1, l1, dd, eq_true z]
        · rw [if_pos (by omega)]
          simp only [f_X3_readValue_100, o10, o00, bh, isO, inR, ck_true, bind_some9, Nat.reduceLeDiff, Nat.reduceEqDiff, and_self, and_true, true_and, false_and, and_false, not_false_eq_true, not_true_eq_false, or_self, or_false, false_or, if_true, if_false, reduceIte, zR_pE, zT_pE, zL_pE, zn_pE, zE_pE, zI_pE, zQ_pE, zJ_pE, zR_pI, zT_pI, zL_pI, zn_pI, zE_pI, zI_pI, zQ_pI, zJ_pI, zR_pR, zT_pR, zL_pR, zn_pR, zE_pR, zI_pR, zQ_pR, zJ_pR, zR_pJ, zT_pJ, zL_pJ, zn_pJ, zE_pJ, zI_pJ, zQ_pJ, zJ_pJ, o, r1, o11, l11, ns, n1, g1, l1, dd, eq_false z]
      | true =>
        have hb : (if true = true then (1 : Int32) else 0) = 1 := rfl
        have hb2 : (if true = true then -v else v) = -v := rfl
        rw [hb, hb2]
        by_cases z : d = 0
        · rw [if_neg (by omega)]
          simp only [f_X3_readValue_100, o10, o00, bh, isO, inR, ck_true, bind_some9, Nat.reduceLeDiff, Nat.reduceEqDiff, and_self, and_true, true_and, false_and, and_false, not_false_eq_true, not_true_eq_false, or_self, or_false, false_or, if_true, if_false, reduceIte, zR_pE, zT_pE, zL_pE, zn_pE, zE_pE, zI_pE, zQ_pE, zJ_pE, zR_pI, zT_pI, zL_pI, zn_pI, zE_pI, zI_pI, zQ_pI, zJ_pI, zR_pR, zT_pR, zL_pR, zn_pR, zE_pR, zI_pR, zQ_pR, zJ_pR, zR_pJ, zT_pJ, zL_pJ, zn_pJ, zE_pJ, zI_pJ, zQ_pJ, zJ_pJ, k10, o, r1, o11, l11, ns, n1, g1, l1, dd, eq_true z]
        · rw [if_pos (by omega)]
          simp only [f_X3_readValue_100, o10, o00, bh, isO, inR, ck_true, bind_some9, Nat.reduceLeDiff, Nat.reduceEqDiff, and_self, and_true, true_and, false_and, and_false, not_false_eq_true, not_true_eq_false, or_self, or_false, false_or, if_true, if_false, reduceIte, zR_pE, zT_pE, zL_pE, zn_pE, zE_pE, zI_pE, zQ_pE, zJ_pE, zR_pI, zT_pI, zL_pI, zn_pI, zE_pI, zI_pI, zQ_pI, zJ_pI, zR_pR, zT_pR, zL_pR, zn_pR, zE_pR, zI_pR, zQ_pR, zJ_pR, zR_pJ, zT_pJ, zL_pJ, zn_pJ, zE_pJ, zI_pJ, zQ_pJ, zJ_pJ, k10, o, r1, o11, l11, ns, n1, g1, l1, dd, eq_false z]
    have pe := c_peek q
    generalize hng : (if neg = true then (1 : Int32) else 0) = ng at *
    cases n with
    | zero =>
      have e5 : d = 5 := by omega
      obtain ⟨h1, y1, y2⟩ := fin
      have c5 : (5 : Int32) ≤ nI d := by rw [e5]; decide
      refine ⟨h1, ?_, y2⟩
      have : d + ((pDg T 0 v a).2 - a) = d := by show d + (a - a) = d; omega
      rw [this, ← y1]
      simp only [f_X3_readValue_47, o10, o00, bh, isO, inR, ck_true, bind_some9, Nat.reduceLeDiff, Nat.reduceEqDiff, and_self, and_true, true_and, false_and, and_false, not_false_eq_true, not_true_eq_false, or_self, or_false, false_or, if_true, if_false, reduceIte, zR_pE, zT_pE, zL_pE, zn_pE, zE_pE, zI_pE, zQ_pE, zJ_pE, zR_pI, zT_pI, zL_pI, zn_pI, zE_pI, zI_pI, zQ_pI, zJ_pI, zR_pR, zT_pR, zL_pR, zn_pR, zE_pR, zI_pR, zQ_pR, zJ_pR, zR_pJ, zT_pJ, zL_pJ, zn_pJ, zE_pJ, zI_pJ, zQ_pJ, zJ_pJ, c5]
    | succ n =>
      have c5 : ¬ (5 : Int32) ≤ nI d := zi_le0 (a := 5) (by omega) (by omega) (by omega)
      unfold pDg
      by_cases c : pk T a < 48 ∨ 57 < pk T a
      · rw [if_pos c]
        obtain ⟨h1, y1, y2⟩ := fin
        refine ⟨h1, ?_, y2⟩
        have : d + (a - a) = d := by omega
        dsimp only
        rw [this, ← y1]
        by_cases c1 : pk T a < 48
        · simp only [f_X3_readValue_47, o10, o00, bh, isO, inR, ck_true, bind_some9, Nat.reduceLeDiff, Nat.reduceEqDiff, and_self, and_true, true_and, false_and, and_false, not_false_eq_true, not_true_eq_false, or_self, or_false, false_or, if_true, if_false, reduceIte, zR_pE, zT_pE, zL_pE, zn_pE, zE_pE, zI_pE, zQ_pE, zJ_pE, zR_pI, zT_pI, zL_pI, zn_pI, zE_pI, zI_pI, zQ_pI, zJ_pI, zR_pR, zT_pR, zL_pR, zn_pR, zE_pR, zI_pR, zQ_pR, zJ_pR, zR_pJ, zT_pJ, zL_pJ, zn_pJ, zE_pJ, zI_pJ, zQ_pJ, zJ_pJ, c5, o, pe, c1]
        · have c2 := c.resolve_left c1
          simp only [f_X3_readValue_47, o10, o00, bh, isO, inR, ck_true, bind_some9, Nat.reduceLeDiff, Nat.reduceEqDiff, and_self, and_true, true_and, false_and, and_false, not_false_eq_true, not_true_eq_false, or_self, or_false, false_or, if_true, if_false, reduceIte, zR_pE, zT_pE, zL_pE, zn_pE, zE_pE, zI_pE, zQ_pE, zJ_pE, zR_pI, zT_pI, zL_pI, zn_pI, zE_pI, zI_pI, zQ_pI, zJ_pI, zR_pR, zT_pR, zL_pR, zn_pR, zE_pR, zI_pR, zQ_pR, zJ_pR, zR_pJ, zT_pJ, zL_pJ, zn_pJ, zE_pJ, zI_pJ, zQ_pJ, zJ_pJ, c5, o, pe, c1, c2]
      · rw [if_neg c]
        have c1 : ¬ pk T a < 48 := fun z => c (Or.inl z)
        have c2 : ¬ 57 < pk T a := fun z => c (Or.inr z)
        have al := pk_ge (c := 48) (by decide) c1
        obtain ⟨s1, s2⟩ := q.step (B := B) (a1 := a + 1) al
        obtain ⟨h1, y1, y2, y3, y4, y5⟩ := c_val47 hs hB (neg := neg) n (d + 1) fuel (10 * v + pk T a - 48) (a + 1) _ s1 (by omega) (by omega)
        have le := pDg_le (T := T) n (10 * v + pk T a - 48) (a + 1) al
        have e6 : d + 1 + ((pDg T n (10 * v + pk T a - 48) (a + 1)).2 - (a + 1)) = d + ((pDg T n (10 * v + pk T a - 48) (a + 1)).2 - a) := by omega
        rw [e6] at y1
        refine ⟨h1, ?_, y2, s2.tr y3, y4, fun j hj => (y5 j hj).trans rfl⟩
        rw [← y1, hng]
        simp only [f_X3_readValue_47, o10, o00, bh, isO, inR, ck_true, bind_some9, Nat.reduceLeDiff, Nat.reduceEqDiff, and_self, and_true, true_and, false_and, and_false, not_false_eq_true, not_true_eq_false, or_self, or_false, false_or, if_true, if_false, reduceIte, zR_pE, zT_pE, zL_pE, zn_pE, zE_pE, zI_pE, zQ_pE, zJ_pE, zR_pI, zT_pI, zL_pI, zn_pI, zE_pI, zI_pI, zQ_pI, zJ_pI, zR_pR, zT_pR, zL_pR, zn_pR, zE_pR, zI_pR, zQ_pR, zJ_pR, zR_pJ, zT_pJ, zL_pJ, zn_pJ, zE_pJ, zI_pJ, zQ_pJ, zJ_pJ, c5, o, pe, c1, c2, e4, zi_one]
theorem c_rdN {s : Nat} (hs : B ≤ s ∧ s + 1 < B + 8) (hB : B + 8 ≤ 480) (q : atC h T a) (c : pk T a < 97 ∨ 104 < pk T a) {d : Int32 × Nat} (hd : pDg T 5 0 (pTk T 45 a).2 = d) : ∃ h1, f_X3_readValue 9 (nI s) h = some (if (pTk T 45 a).2 < d.2 then 1 else 0, h1) ∧ atC h1 T d.2 ∧ pcf B h h1 ∧ zE h1 11 (s + 1) = (if (pTk T 45 a).1 = true then -d.1 else d.1) ∧ ∀ j, j ≠ s + 1 → zE h1 11 j = zE h 11 j := by
  obtain ⟨⟨⟨o, r0, r1, r2⟩, -, ⟨o11, l11⟩, -, e3, t, cc⟩, e4, ha⟩ := id q
  have pe := c_peek q
  have lo := c_local (pk T a) h
  rw [if_pos c] at lo
  obtain ⟨h1, x1, x2, x3, x4⟩ := c_accept (B := B) q (c := 45) (by decide)
  obtain ⟨h2, y1, y2, y3, y4, y5⟩ := c_val47 (B := B) hs hB (neg := (pTk T 45 a).1) 5 0 fz 0 (pTk T 45 a).2 h1 x2 (by omega) (fz_big (by omega))
  rw [hd] at y1 y2 y4
  rw [Nat.zero_add] at y1
  generalize (pTk T 45 a).2 = m at *
  generalize (if (pTk T 45 a).1 = true then (1 : Int32) else 0) = ng at *
  have er : (if 0 < d.2 - m then (1 : Int32) else 0) = if m < d.2 then 1 else 0 := by
    by_cases z : m < d.2
    · rw [if_pos (by omega), if_pos z]
    · rw [if_neg (by omega), if_neg z]
  rw [er] at y1
  generalize (if m < d.2 then (1 : Int32) else 0) = r9 at *
  have zz : nI 0 = (0 : Int32) := by decide
  rw [zz] at y1
  refine ⟨h2, ?_, y2, x3.tr y3, y4, fun j h4 => (y5 j h4).trans (by rw [x4])⟩
  have key : ∀ F : Int32 → Hp → Option (Int32 × Hp), ((f_X3_accept 9 45 h).bind (fun q5 => F q5.1 q5.2)) = F ng h1 := fun F => by rw [x1]; rfl
  have k2 : f_X3_readValue 9 (nI s) h = (f_X3_accept 9 45 h).bind (fun q5 => f_X3_readValue_47 fz 9 (nI s) q5.1 0 0 q5.2) := by
    unfold f_X3_readValue
    rw [ck_yes o, pe, bind_some9]
    dsimp only
    rw [lo, bind_some9]
    dsimp only
    rw [if_pos rfl, ck_yes o]
  rw [k2, key (fun x g => f_X3_readValue_47 fz 9 (nI s) x 0 0 g)]
  exact y1
theorem c_rdV {s : Nat} (hs : B ≤ s ∧ s + 1 < B + 8) (hB : B + 8 ≤ 480) (q : atC h T a) (e0 : zE h 11 s = -1) (e1 : zE h 11 (s + 1) = 0) : ∃ h1, f_X3_readValue 9 (nI s) h = some (if (pVl T a).1 = true then 1 else 0, h1) ∧ atC h1 T (pVl T a).2.1 ∧ pcf B h h1 ∧ (zE h1 11 s = (pVl T a).2.2.1 ∧ zE h1 11 (s + 1) = (pVl T a).2.2.2) ∧ ∀ j, j ≠ s → j ≠ s + 1 → zE h1 11 j = zE h 11 j := by
  obtain ⟨⟨⟨o, r0, r1, r2⟩, -, ⟨o11, l11⟩, -, e3, t, cc⟩, e4, ha⟩ := id q
  have pe := c_peek q
  have lo := c_local (pk T a) h
  by_cases c : pk T a < 97 ∨ 104 < pk T a
  · obtain ⟨h2, y1, y2, y3, y4, y5⟩ := c_rdN hs hB q c rfl
    have eV : pVl T a = (decide ((pTk T 45 a).2 < (pDg T 5 0 (pTk T 45 a).2).2), (pDg T 5 0 (pTk T 45 a).2).2, -1, if (pTk T 45 a).1 = true then -(pDg T 5 0 (pTk T 45 a).2).1 else (pDg T 5 0 (pTk T 45 a).2).1) := if_pos c
    rw [eV]
    generalize pDg T 5 0 (pTk T 45 a).2 = d at *
    have er : (if (pTk T 45 a).2 < d.2 then (1 : Int32) else 0) = if decide ((pTk T 45 a).2 < d.2) = true then 1 else 0 := by
      by_cases z : (pTk T 45 a).2 < d.2
      · rw [if_pos z, if_pos (decide_eq_true z)]
      · rw [if_neg z, if_neg (by rw [decide_eq_false z]; exact fun z => by cases z)]
    rw [er] at y1
    exact ⟨h2, y1, y2, y3, ⟨(y5 s (by omega)).trans e0, y4⟩, fun j h3 h4 => y5 j h4⟩
  · have eV : pVl T a = (true, a + 1, pk T a - 97, 0) := if_neg c
    rw [eV]
    rw [if_neg c] at lo
    have c1 : ¬ pk T a < 97 := fun z => c (Or.inl z)
    have al := pk_ge (c := 97) (by decide) c1
    have ns : (nI s).toNatClampNeg = s := zi_nat (by omega)
    have gs : ¬ nI s < 0 := zi_neg (by omega)
    have ls : ¬ 480 ≤ s := by omega
    obtain ⟨s1, s2⟩ := q.code (B := B) (j := s) (by omega) (pk T a - 97)
    have e41 : zI (pE h 11 s (pk T a - 97)) 404 9 = nI a := s1.2.1
    have o1 := s1.1.1.1
    have v0 : zE (pE h 11 s (pk T a - 97)) 11 s = pk T a - 97 := by rw [zE_pE, if_pos ⟨rfl, rfl⟩]
    have v1 : ∀ j, j ≠ s → zE (pE h 11 s (pk T a - 97)) 11 j = zE h 11 j := fun j hj => by rw [zE_pE, if_neg (fun z => hj z.2)]
    generalize hg : pE h 11 s (pk T a - 97) = g at *
    obtain ⟨s3, s4⟩ := s1.step (B := B) (a1 := a + 1) al
    refine ⟨_, ?_, s3, s2.tr s4, ⟨v0, (v1 (s + 1) (by omega)).trans e1⟩, fun j h3 h4 => v1 j h3⟩
    simp only [f_X3_readValue, o10, o00, bh, isO, inR, ck_true, bind_some9, Nat.reduceLeDiff, Nat.reduceEqDiff, and_self, and_true, true_and, false_and, and_false, not_false_eq_true, not_true_eq_false, or_self, or_false, false_or, if_true, if_false, reduceIte, zR_pE, zT_pE, zL_pE, zn_pE, zE_pE, zI_pE, zQ_pE, zJ_pE, zR_pI, zT_pI, zL_pI, zn_pI, zE_pI, zI_pI, zQ_pI, zJ_pI, zR_pR, zT_pR, zL_pR, zn_pR, zE_pR, zI_pR, zQ_pR, zJ_pR, zR_pJ, zT_pJ, zL_pJ, zn_pJ, zE_pJ, zI_pJ, zQ_pJ, zJ_pJ, o, pe, lo, show ((1 : Int32) = 0) = False from eq_false (by decide), r1, o11, l11, ns, gs, ls, hg, o1, e41, e4, zi_one]
theorem c_bracket (hB : B + 8 ≤ 480) (q : atC h T a) (e0 : zE h 11 (B + 4) = -1) (e1 : zE h 11 (B + 5) = 0) : ∃ h1, f_X3_readBracket 9 (nI B) h = some (if (pBr T a).1 = true then 1 else 0, h1) ∧ atC h1 T (pBr T a).2.1 ∧ pcf B h h1 ∧ ((pBr T a).1 = true → zE h1 11 (B + 4) = (pBr T a).2.2.1 ∧ zE h1 11 (B + 5) = (pBr T a).2.2.2) ∧ ∀ j, j ≠ B + 4 → j ≠ B + 5 → zE h1 11 j = zE h 11 j := by
  have o := q.1.1.1
  have ns : nI B + (4 : Int32) = nI (B + 4) := zi_add _ 4
  have k10 : ((1 : Int32) = 0) = False := eq_false (by decide)
  obtain ⟨h1, x1, x2, x3, x4⟩ := c_accept (B := B) q (c := 40) (by decide)
  unfold pBr
  cases p1 : (pTk T 40 a).1 with
  | false =>
    rw [p1, if_neg (fun z => Bool.noConfusion z)] at x1
    rw [if_pos rfl]
    refine ⟨h1, ?_, x2, x3, fun z => (by cases z), fun j _ _ => by rw [x4]⟩
    simp only [f_X3_readBracket, o10, o00, bh, isO, inR, ck_true, bind_some9, Nat.reduceLeDiff, Nat.reduceEqDiff, and_self, and_true, true_and, false_and, and_false, not_false_eq_true, not_true_eq_false, or_self, or_false, false_or, if_true, if_false, reduceIte, zR_pE, zT_pE, zL_pE, zn_pE, zE_pE, zI_pE, zQ_pE, zJ_pE, zR_pI, zT_pI, zL_pI, zn_pI, zE_pI, zI_pI, zQ_pI, zJ_pI, zR_pR, zT_pR, zL_pR, zn_pR, zE_pR, zI_pR, zQ_pR, zJ_pR, zR_pJ, zT_pJ, zL_pJ, zn_pJ, zE_pJ, zI_pJ, zQ_pJ, zJ_pJ, o, x1]
    rfl
  | true =>
    rw [p1, if_pos rfl] at x1
    rw [if_neg (show ¬ true = false from fun z => by cases z)]
    have o1 := x2.1.1.1
    obtain ⟨h2, y1, y2, y3, ⟨y4, y5⟩, y6⟩ := c_rdV (B := B) (s := B + 4) (by omega) hB x2 (by rw [x4]; exact e0) (by rw [x4]; exact e1)
    have o2 := y2.1.1.1
    cases p2 : (pVl T (pTk T 40 a).2).1 with
    | false =>
      rw [p2, if_neg (fun z => Bool.noConfusion z)] at y1
      rw [if_pos rfl]
      refine ⟨h2, ?_, y2, x3.tr y3, fun z => (by cases z), fun j h3 h4 => (y6 j h3 h4).trans (by rw [x4])⟩
      simp only [f_X3_readBracket, o10, o00, bh, isO, inR, ck_true, bind_some9, Nat.reduceLeDiff, Nat.reduceEqDiff, and_self, and_true, true_and, false_and, and_false, not_false_eq_true, not_true_eq_false, or_self, or_false, false_or, if_true, if_false, reduceIte, zR_pE, zT_pE, zL_pE, zn_pE, zE_pE, zI_pE, zQ_pE, zJ_pE, zR_pI, zT_pI, zL_pI, zn_pI, zE_pI, zI_pI, zQ_pI, zJ_pI, zR_pR, zT_pR, zL_pR, zn_pR, zE_pR, zI_pR, zQ_pR, zJ_pR, zR_pJ, zT_pJ, zL_pJ, zn_pJ, zE_pJ, zI_pJ, zQ_pJ, zJ_pJ, o, x1, k10, o1, ns, y1]
      rfl
    | true =>
      rw [p2, if_pos rfl] at y1
      rw [if_neg (show ¬ true = false from fun z => by cases z)]
      obtain ⟨h3, z1, z2, z3, z4⟩ := c_accept (B := B) y2 (c := 41) (by decide)
      refine ⟨h3, ?_, z2, (x3.tr y3).tr z3, fun _ => ⟨by rw [z4]; exact y4, by rw [z4]; exact y5⟩, fun j h3 h4 => by rw [z4]; exact (y6 j h3 h4).trans (by rw [x4])⟩
      cases p3 : (pTk T 41 (pVl T (pTk T 40 a).2).2.1).1 with
      | false =>
        rw [p3, if_neg (fun z => Bool.noConfusion z)] at z1
        simp only [f_X3_readBracket, o10, o00, bh, isO, inR, ck_true, bind_some9, Nat.reduceLeDiff, Nat.reduceEqDiff, and_self, and_true, true_and, false_and, and_false, not_false_eq_true, not_true_eq_false, or_self, or_false, false_or, if_true, if_false, reduceIte, zR_pE, zT_pE, zL_pE, zn_pE, zE_pE, zI_pE, zQ_pE, zJ_pE, zR_pI, zT_pI, zL_pI, zn_pI, zE_pI, zI_pI, zQ_pI, zJ_pI, zR_pR, zT_pR, zL_pR, zn_pR, zE_pR, zI_pR, zQ_pR, zJ_pR, zR_pJ, zT_pJ, zL_pJ, zn_pJ, zE_pJ, zI_pJ, zQ_pJ, zJ_pJ, o, x1, k10, o1, ns, y1, o2, z1]
        rfl
      | true =>
        rw [p3, if_pos rfl] at z1
        simp only [f_X3_readBracket, o10, o00, bh, isO, inR, ck_true, bind_some9, Nat.reduceLeDiff, Nat.reduceEqDiff, and_self, and_true, true_and, false_and, and_false, not_false_eq_true, not_true_eq_false, or_self, or_false, false_or, if_true, if_false, reduceIte, zR_pE, zT_pE, zL_pE, zn_pE, zE_pE, zI_pE, zQ_pE, zJ_pE, zR_pI, zT_pI, zL_pI, zn_pI, zE_pI, zI_pI, zQ_pI, zJ_pI, zR_pR, zT_pR, zL_pR, zn_pR, zE_pR, zI_pR, zQ_pR, zJ_pR, zR_pJ, zT_pJ, zL_pJ, zn_pJ, zE_pJ, zI_pJ, zQ_pJ, zJ_pJ, o, x1, k10, o1, ns, y1, o2, z1]
theorem c_digit (hB : B + 8 ≤ 480) (q : atC h T a) (last : Int32) : ∃ h1, f_X3_readDigit 9 (nI B) last h = some (if (pNm T last a).1 = true then 1 else 0, h1) ∧ atC h1 T (pNm T last a).2.1 ∧ pcf B h h1 ∧ ((pNm T last a).1 = true → zE h1 11 (B + 2) = (pNm T last a).2.2 ∧ zE h1 11 (B + 3) = nI a) ∧ ∀ j, j ≠ B + 2 → j ≠ B + 3 → zE h1 11 j = zE h 11 j := by
  obtain ⟨⟨⟨o, r0, r1, r2⟩, -, ⟨o11, l11⟩, -, e3, t, cc⟩, e4, ha⟩ := id q
  have pe := c_peek q
  unfold pNm
  by_cases c : pk T a < 48 ∨ last < pk T a
  · rw [if_pos c]
    refine ⟨h, ?_, q, pcf.rf B h, fun z => (by cases z), fun j _ _ => rfl⟩
    by_cases c1 : pk T a < 48
    · simp only [f_X3_readDigit, o10, o00, bh, isO, inR, ck_true, bind_some9, Nat.reduceLeDiff, Nat.reduceEqDiff, and_self, and_true, true_and, false_and, and_false, not_false_eq_true, not_true_eq_false, or_self, or_false, false_or, if_true, if_false, reduceIte, zR_pE, zT_pE, zL_pE, zn_pE, zE_pE, zI_pE, zQ_pE, zJ_pE, zR_pI, zT_pI, zL_pI, zn_pI, zE_pI, zI_pI, zQ_pI, zJ_pI, zR_pR, zT_pR, zL_pR, zn_pR, zE_pR, zI_pR, zQ_pR, zJ_pR, zR_pJ, zT_pJ, zL_pJ, zn_pJ, zE_pJ, zI_pJ, zQ_pJ, zJ_pJ, o, pe, c1]
      rfl
    · have c2 : (pk T a ≤ last) = False := eq_false (Int32.not_le.mpr (c.resolve_left c1))
      simp only [f_X3_readDigit, o10, o00, bh, isO, inR, ck_true, bind_some9, Nat.reduceLeDiff, Nat.reduceEqDiff, and_self, and_true, true_and, false_and, and_false, not_false_eq_true, not_true_eq_false, or_self, or_false, false_or, if_true, if_false, reduceIte, zR_pE, zT_pE, zL_pE, zn_pE, zE_pE, zI_pE, zQ_pE, zJ_pE, zR_pI, zT_pI, zL_pI, zn_pI, zE_pI, zI_pI, zQ_pI, zJ_pI, zR_pR, zT_pR, zL_pR, zn_pR, zE_pR, zI_pR, zQ_pR, zJ_pR, zR_pJ, zT_pJ, zL_pJ, zn_pJ, zE_pJ, zI_pJ, zQ_pJ, zJ_pJ, o, pe, c1, c2]
      rfl
  · rw [if_neg c]
    have c1 : ¬ pk T a < 48 := fun z => c (Or.inl z)
    have c2 : (pk T a ≤ last) = True := eq_true (Int32.not_lt.mp (fun z => c (Or.inr z)))
    have al := pk_ge (c := 48) (by decide) c1
    have n2 : nI B + (2 : Int32) = nI (B + 2) := zi_add _ 2
    have n3 : nI B + (3 : Int32) = nI (B + 3) := zi_add _ 3
    have t2 : (nI (B + 2)).toNatClampNeg = B + 2 := zi_nat (by omega)
    have t3 : (nI (B + 3)).toNatClampNeg = B + 3 := zi_nat (by omega)
    have g2 : ¬ nI (B + 2) < 0 := zi_neg (by omega)
    have g3 : ¬ nI (B + 3) < 0 := zi_neg (by omega)
    have l2 : ¬ 480 ≤ B + 2 := by omega
    have l3 : ¬ 480 ≤ B + 3 := by omega
    obtain ⟨s1, s2⟩ := q.code (B := B) (j := B + 2) (by omega) (pk T a - 48)
    have u0 : zE (pE h 11 (B + 2) (pk T a - 48)) 11 (B + 2) = pk T a - 48 := by rw [zE_pE, if_pos ⟨rfl, rfl⟩]
    have u1 : ∀ j, j ≠ B + 2 → zE (pE h 11 (B + 2) (pk T a - 48)) 11 j = zE h 11 j := fun j hj => by rw [zE_pE, if_neg (fun z => hj z.2)]
    generalize hg1 : pE h 11 (B + 2) (pk T a - 48) = g1 at *
    obtain ⟨⟨⟨o1, -, r11, -⟩, -, ⟨o111, l111⟩, -⟩, e41, -⟩ := id s1
    obtain ⟨s3, s4⟩ := s1.code (B := B) (j := B + 3) (by omega) (nI a)
    have w0 : zE (pE g1 11 (B + 3) (nI a)) 11 (B + 3) = nI a := by rw [zE_pE, if_pos ⟨rfl, rfl⟩]
    have w1 : ∀ j, j ≠ B + 3 → zE (pE g1 11 (B + 3) (nI a)) 11 j = zE g1 11 j := fun j hj => by rw [zE_pE, if_neg (fun z => hj z.2)]
    generalize hg2 : pE g1 11 (B + 3) (nI a) = g2' at *
    obtain ⟨⟨⟨o2, -⟩, -⟩, e42, -⟩ := id s3
    obtain ⟨s5, s6⟩ := s3.step (B := B) (a1 := a + 1) al
    refine ⟨_, ?_, s5, (s2.tr s4).tr s6, fun _ => ⟨(w1 _ (by omega)).trans u0, w0⟩, fun j h3 h4 => (w1 j h4).trans (u1 j h3)⟩
    simp only [f_X3_readDigit, o10, o00, bh, isO, inR, ck_true, bind_some9, Nat.reduceLeDiff, Nat.reduceEqDiff, and_self, and_true, true_and, false_and, and_false, not_false_eq_true, not_true_eq_false, or_self, or_false, false_or, if_true, if_false, reduceIte, zR_pE, zT_pE, zL_pE, zn_pE, zE_pE, zI_pE, zQ_pE, zJ_pE, zR_pI, zT_pI, zL_pI, zn_pI, zE_pI, zI_pI, zQ_pI, zJ_pI, zR_pR, zT_pR, zL_pR, zn_pR, zE_pR, zI_pR, zQ_pR, zJ_pR, zR_pJ, zT_pJ, zL_pJ, zn_pJ, zE_pJ, zI_pJ, zQ_pJ, zJ_pJ, o, pe, c1, c2, r1, o11, l11, n2, t2, g2, l2, hg1, r11, o111, l111, n3, t3, g3, l3, e41, e4, hg2, e42, zi_one]
end P
/-! THE PARSER OF THE CLASS: steps -/
def stQ (h : Hp) (B : Nat) (q : StpQ) (d : Nat) : Prop := (zE h 11 B = q.1 ∧ zE h 11 (B + 1) = q.2.1 ∧ zE h 11 (B + 2) = q.2.2.1 ∧ (jmp q = true → zE h 11 (B + 3) = nI d)) ∧ zE h 11 (B + 4) = q.2.2.2.1.1 ∧ zE h 11 (B + 5) = q.2.2.2.1.2 ∧ zE h 11 (B + 6) = q.2.2.2.2.1 ∧ zE h 11 (B + 7) = q.2.2.2.2.2
/-- what a function of the parser leaves -/
def pOut (B : Nat) (h : Hp) (T : List Int32) (r : Bool × Nat × StpQ × Nat) (x : Option (Int32 × Hp)) : Prop := ∃ h1, x = some (if r.1 = true then 1 else 0, h1) ∧ atC h1 T r.2.1 ∧ pcf B h h1 ∧ (r.1 = true → stQ h1 B r.2.2.1 r.2.2.2)
theorem pOut.pre {B : Nat} {h h0 : Hp} {T : List Int32} {r : Bool × Nat × StpQ × Nat} {x : Option (Int32 × Hp)} (f : pcf B h0 h) (p : pOut B h T r x) : pOut B h0 T r x := by
  obtain ⟨h1, p1, p2, p3, p4⟩ := p
  exact ⟨h1, p1, p2, f.tr p3, p4⟩
theorem pOut.no {B : Nat} {h h1 : Hp} {T : List Int32} {a : Nat} {q : StpQ} {d : Nat} (q1 : atC h1 T a) (f : pcf B h h1) : pOut B h T (false, a, q, d) (some (0, h1)) := ⟨h1, rfl, q1, f, fun z => by cases z⟩
section P
variable {h : Hp} {T : List Int32} {a B : Nat}
/-- the slots of a step before its letter -/
def stN (h : Hp) (B : Nat) (v : Int32) : Prop := zE h 11 (B + 1) = v ∧ zE h 11 (B + 2) = 0 ∧ (zE h 11 (B + 4) = -1 ∧ zE h 11 (B + 5) = 0) ∧ zE h 11 (B + 6) = -1 ∧ zE h 11 (B + 7) = 0
theorem jmp_no {c v d : Int32} {x y : Int32 × Int32} (h1 : c ≠ 73) (h2 : c ≠ 71) : jmp (c, v, d, x, y) = false := by
  unfold jmp
  rw [decide_eq_false h1, decide_eq_false h2]
  rfl
theorem c_put (q : atC h T a) (hB : B + 8 ≤ 480) {j : Nat} (hj : j < 8) (x : Int32) : atC (pE h 11 (B + j) x) T a ∧ pcf B h (pE h 11 (B + j) x) ∧ zE (pE h 11 (B + j) x) 11 (B + j) = x ∧ (∀ k, k ≠ B + j → zE (pE h 11 (B + j) x) 11 k = zE h 11 k) ∧ (nI (B + j)).toNatClampNeg = B + j ∧ ¬ nI (B + j) < 0 ∧ ¬ 480 ≤ B + j := by
  obtain ⟨s1, s2⟩ := q.code (B := B) (j := B + j) (by omega) x
  exact ⟨s1, s2, by rw [zE_pE, if_pos ⟨rfl, rfl⟩], fun k hk => by rw [zE_pE, if_neg (fun z => hk z.2)], zi_nat (by omega), zi_neg (by omega), by omega⟩
theorem c_rdR (hB : B + 8 ≤ 480) (q : atC h T a) {v : Int32} (n : stN h B v) : pOut B h T (pRk T a v) (f_X3_readReckoning 9 (nI B) h) := by
  obtain ⟨n1, n2, ⟨n4, n5⟩, n6, n7⟩ := n
  obtain ⟨⟨⟨o, r0, r1, r2⟩, -, ⟨o11, l11⟩, -⟩, e4, ha⟩ := id q
  have b0 : nI B + (0 : Int32) = nI B := Int32.add_zero _
  have b4 : nI B + (4 : Int32) = nI (B + 4) := zi_add _ 4
  have b6 : nI B + (6 : Int32) = nI (B + 6) := zi_add _ 6
  have k10 : ((1 : Int32) = 0) = False := eq_false (by decide)
  obtain ⟨s1, s2, s3, s4, tB, gB, lB⟩ := c_put (j := 0) q hB (by omega) 43
  rw [Nat.add_zero] at s1 s2 s3 s4 tB gB lB
  generalize hg : pE h 11 B 43 = g at *
  obtain ⟨h1, x1, x2, x3, ⟨x4, x5⟩, x6⟩ := c_rdV (B := B) (s := B + 4) (by omega) hB s1 ((s4 _ (by omega)).trans n4) ((s4 _ (by omega)).trans n5)
  have og := s1.1.1.1
  have o1 := x2.1.1.1
  have pe := c_peek x2
  have at1 : ∀ j, j < 8 → j ≠ 4 → j ≠ 5 → j ≠ 0 → zE h1 11 (B + j) = zE h 11 (B + j) := fun j _ _ _ _ => (x6 _ (by omega) (by omega)).trans (s4 _ (by omega))
  have at0 : zE h1 11 B = 43 := (x6 _ (by omega) (by omega)).trans s3
  unfold pRk
  cases p1 : (pVl T a).1 with
  | false =>
    rw [p1, if_neg (fun z => Bool.noConfusion z)] at x1
    rw [if_pos rfl]
    have : f_X3_readReckoning 9 (nI B) h = some (0, h1) := by
      simp only [f_X3_readReckoning, o10, o00, bh, isO, inR, ck_true, bind_some9, Nat.reduceLeDiff, Nat.reduceEqDiff, and_self, and_true, true_and, false_and, and_false, not_false_eq_true, not_true_eq_false, or_self, or_false, false_or, if_true, if_false, reduceIte, zR_pE, zT_pE, zL_pE, zn_pE, zE_pE, zI_pE, zQ_pE, zJ_pE, zR_pI, zT_pI, zL_pI, zn_pI, zE_pI, zI_pI, zQ_pI, zJ_pI, zR_pR, zT_pR, zL_pR, zn_pR, zE_pR, zI_pR, zQ_pR, zJ_pR, zR_pJ, zT_pJ, zL_pJ, zn_pJ, zE_pJ, zI_pJ, zQ_pJ, zJ_pJ, o, r1, o11, l11, b0, tB, gB, lB, hg, b4, x1]
    rw [this]
    exact pOut.no x2 (s2.tr x3)
  | true =>
    rw [p1, if_pos rfl] at x1
    rw [if_neg (show ¬ true = false from fun z => by cases z)]
    generalize (pVl T a).2.1 = a1 at *
    by_cases c : pk T a1 = 43 ∨ pk T a1 = 45 ∨ pk T a1 = 42 ∨ pk T a1 = 60 ∨ pk T a1 = 61
    · rw [if_pos c]
      have al : a1 < T.length := by
        rcases c with c | c | c | c | c
        · exact pk_lq (by decide) c
        · exact pk_lq (by decide) c
        · exact pk_lq (by decide) c
        · exact pk_lq (by decide) c
        · exact pk_lq (by decide) c
      have nj : pk T a1 ≠ 73 ∧ pk T a1 ≠ 71 := by
        rcases c with c | c | c | c | c <;> (rw [c]; decide)
      have e1 : f_X3_readReckoning 9 (nI B) h = f_X3_readReckoning_59 9 (nI B) (pk T a1) h1 := by
        have base : f_X3_readReckoning 9 (nI B) h = (if pk T a1 = 43 then f_X3_readReckoning_59 9 (nI B) (pk T a1) h1 else if pk T a1 = 45 then f_X3_readReckoning_59 9 (nI B) (pk T a1) h1 else if pk T a1 = 42 then f_X3_readReckoning_59 9 (nI B) (pk T a1) h1 else if pk T a1 = 60 then f_X3_readReckoning_59 9 (nI B) (pk T a1) h1 else if pk T a1 = 61 then f_X3_readReckoning_59 9 (nI B) (pk T a1) h1 else some (1, h1)) := by
          simp only [f_X3_readReckoning, o10, o00, bh, isO, inR, ck_true, bind_some9, Nat.reduceLeDiff, Nat.reduceEqDiff, and_self, and_true, true_and, false_and, and_false, not_false_eq_true, not_true_eq_false, or_self, or_false, false_or, if_true, if_false, reduceIte, zR_pE, zT_pE, zL_pE, zn_pE, zE_pE, zI_pE, zQ_pE, zJ_pE, zR_pI, zT_pI, zL_pI, zn_pI, zE_pI, zI_pI, zQ_pI, zJ_pI, zR_pR, zT_pR, zL_pR, zn_pR, zE_pR, zI_pR, zQ_pR, zJ_pR, zR_pJ, zT_pJ, zL_pJ, zn_pJ, zE_pJ, zI_pJ, zQ_pJ, zJ_pJ, o, r1, o11, l11, b0, tB, gB, lB, hg, b4, x1, k10, o1, pe]
        rw [base]
        split
        · rfl
        · split
          · rfl
          · split
            · rfl
            · split
              · rfl
              · split
                · rfl
                · next z1 z2 z3 z4 z5 =>
                  rcases c with c | c | c | c | c
                  · exact absurd c z1
                  · exact absurd c z2
                  · exact absurd c z3
                  · exact absurd c z4
                  · exact absurd c z5
      rw [e1]
      obtain ⟨⟨⟨-, -, r11, -⟩, -, ⟨o111, l111⟩, -⟩, e41, -⟩ := id x2
      obtain ⟨t1, t2, t3, t4, -⟩ := c_put (j := 0) x2 hB (by omega) (pk T a1)
      rw [Nat.add_zero] at t1 t2 t3 t4
      generalize hk : pE h1 11 B (pk T a1) = k at *
      have e4k := t1.2.1
      obtain ⟨u1, u2⟩ := t1.step (B := B) (a1 := a1 + 1) al
      have uE : zE (pI k 404 9 (nI (a1 + 1))) = zE k := rfl
      generalize hm : pI k 404 9 (nI (a1 + 1)) = m at *
      obtain ⟨h2, y1, y2, y3, ⟨y4, y5⟩, y6⟩ := c_rdV (B := B) (s := B + 6) (by omega) hB u1 (by rw [uE, t4 _ (by omega), at1 6 (by omega) (by omega) (by omega) (by omega)]; exact n6) (by rw [uE, t4 _ (by omega), at1 7 (by omega) (by omega) (by omega) (by omega)]; exact n7)
      have keep : ∀ j, j ≠ B + 6 → j ≠ B + 7 → j ≠ B → zE h2 11 j = zE h1 11 j := fun j h6 h7 h0 => by rw [y6 j h6 h7, uE, t4 j h0]
      refine ⟨h2, ?_, y2, ((((s2.tr x3).tr t2).tr u2).tr y3), fun _ => ⟨⟨?_, ?_, ?_, fun z => ?_⟩, ?_, ?_, y4, y5⟩⟩
      · have ib := isB_if (pVl T (a1 + 1)).1
        dsimp only
        generalize (if (pVl T (a1 + 1)).1 = true then (1 : Int32) else 0) = r9 at *
        have om := u1.1.1.1
        simp only [f_X3_readReckoning_59, o10, o00, bh, isO, inR, ck_true, bind_some9, Nat.reduceLeDiff, Nat.reduceEqDiff, and_self, and_true, true_and, false_and, and_false, not_false_eq_true, not_true_eq_false, or_self, or_false, false_or, if_true, if_false, reduceIte, zR_pE, zT_pE, zL_pE, zn_pE, zE_pE, zI_pE, zQ_pE, zJ_pE, zR_pI, zT_pI, zL_pI, zn_pI, zE_pI, zI_pI, zQ_pI, zJ_pI, zR_pR, zT_pR, zL_pR, zn_pR, zE_pR, zI_pR, zQ_pR, zJ_pR, zR_pJ, zT_pJ, zL_pJ, zn_pJ, zE_pJ, zI_pJ, zQ_pJ, zJ_pJ, o1, r11, o111, l111, b0, tB, gB, lB, hk, e4k, e41, zi_one, hm, b6, y1, ib]
      · rw [y6 _ (by omega) (by omega), uE]; exact t3
      · rw [keep _ (by omega) (by omega) (by omega)]; exact (at1 1 (by omega) (by omega) (by omega) (by omega)).trans n1
      · rw [keep _ (by omega) (by omega) (by omega)]; exact (at1 2 (by omega) (by omega) (by omega) (by omega)).trans n2
      · rw [jmp_no nj.1 nj.2] at z; cases z
      · rw [keep _ (by omega) (by omega) (by omega)]; exact x4
      · rw [keep _ (by omega) (by omega) (by omega)]; exact x5
    · rw [if_neg c]
      have z1 : ¬ pk T a1 = 43 := fun z => c (Or.inl z)
      have z2 : ¬ pk T a1 = 45 := fun z => c (Or.inr (Or.inl z))
      have z3 : ¬ pk T a1 = 42 := fun z => c (Or.inr (Or.inr (Or.inl z)))
      have z4 : ¬ pk T a1 = 60 := fun z => c (Or.inr (Or.inr (Or.inr (Or.inl z))))
      have z5 : ¬ pk T a1 = 61 := fun z => c (Or.inr (Or.inr (Or.inr (Or.inr z))))
      refine ⟨h1, ?_, x2, s2.tr x3, fun _ => ⟨⟨at0, (at1 1 (by omega) (by omega) (by omega) (by omega)).trans n1, (at1 2 (by omega) (by omega) (by omega) (by omega)).trans n2, fun z => by cases z⟩, x4, x5, (at1 6 (by omega) (by omega) (by omega) (by omega)).trans n6, (at1 7 (by omega) (by omega) (by omega) (by omega)).trans n7⟩⟩
      simp only [f_X3_readReckoning, o10, o00, bh, isO, inR, ck_true, bind_some9, Nat.reduceLeDiff, Nat.reduceEqDiff, and_self, and_true, true_and, false_and, and_false, not_false_eq_true, not_true_eq_false, or_self, or_false, false_or, if_true, if_false, reduceIte, zR_pE, zT_pE, zL_pE, zn_pE, zE_pE, zI_pE, zQ_pE, zJ_pE, zR_pI, zT_pI, zL_pI, zn_pI, zE_pI, zI_pI, zQ_pI, zJ_pI, zR_pR, zT_pR, zL_pR, zn_pR, zE_pR, zI_pR, zQ_pR, zJ_pR, zR_pJ, zT_pJ, zL_pJ, zn_pJ, zE_pJ, zI_pJ, zQ_pJ, zJ_pJ, o, r1, o11, l11, b0, tB, gB, lB, hg, b4, x1, k10, o1, pe, eq_false z1, eq_false z2, eq_false z3, eq_false z4, eq_false z5]
end P
section P
variable {h : Hp} {T : List Int32} {a B : Nat}
theorem c_let (q : atC h T a) (hB : B + 8 ≤ 480) (al : a < T.length) (c : Int32) : atC (pI (pE h 11 B c) 404 9 (nI (a + 1))) T (a + 1) ∧ pcf B h (pI (pE h 11 B c) 404 9 (nI (a + 1))) ∧ zE (pI (pE h 11 B c) 404 9 (nI (a + 1))) 11 B = c ∧ ∀ k, k ≠ B → zE (pI (pE h 11 B c) 404 9 (nI (a + 1))) 11 k = zE h 11 k := by
  obtain ⟨s1, s2, s3, s4, -⟩ := c_put (j := 0) q hB (by omega) c
  rw [Nat.add_zero] at s1 s2 s3 s4
  obtain ⟨u1, u2⟩ := s1.step (B := B) (a1 := a + 1) al
  exact ⟨u1, s2.tr u2, s3, s4⟩
/-- a digit and a bracket behind a letter -/
theorem c_rdAC (hB : B + 8 ≤ 480) {m : Hp} (q : atC m T (a + 1)) {v c last : Int32} (e0 : zE m 11 B = c) (n : stN m B v) (n73 : c ≠ 73) (n71 : c ≠ 71) : pOut B m T (pAC T a v c last) ((f_X3_readDigit 9 (nI B) last m).bind (fun q16 => if q16.1 = 0 then some ((0 : Int32), q16.2) else ck (isO q16.2 9 4) ((f_X3_readBracket 9 (nI B) q16.2).bind (fun q18 => if q18.1 = 0 then some ((0 : Int32), q18.2) else some ((1 : Int32), q18.2))))) := by
  obtain ⟨n1, n2, ⟨n4, n5⟩, n6, n7⟩ := n
  obtain ⟨h1, x1, x2, x3, x4, x5⟩ := c_digit hB q last
  unfold pAC
  cases p1 : (pNm T last (a + 1)).1 with
  | false =>
    rw [p1, if_neg (fun z => Bool.noConfusion z)] at x1
    rw [if_pos rfl, x1]
    exact pOut.no x2 x3
  | true =>
    rw [p1, if_pos rfl] at x1
    rw [if_neg (show ¬ true = false from fun z => by cases z), x1]
    obtain ⟨x41, x42⟩ := x4 p1
    obtain ⟨h2, y1, y2, y3, y4, y5⟩ := c_bracket hB x2 ((x5 _ (by omega) (by omega)).trans n4) ((x5 _ (by omega) (by omega)).trans n5)
    have o1 := x2.1.1.1
    have keep : ∀ j, j ≠ B + 2 → j ≠ B + 3 → j ≠ B + 4 → j ≠ B + 5 → zE h2 11 j = zE m 11 j := fun j h2 h3 h4 h5 => (y5 j h4 h5).trans (x5 j h2 h3)
    have e : ((some ((1 : Int32), h1)).bind (fun q16 => if q16.1 = 0 then some ((0 : Int32), q16.2) else ck (isO q16.2 9 4) ((f_X3_readBracket 9 (nI B) q16.2).bind (fun q18 => if q18.1 = 0 then some ((0 : Int32), q18.2) else some ((1 : Int32), q18.2))))) = (f_X3_readBracket 9 (nI B) h1).bind (fun q18 => if q18.1 = 0 then some ((0 : Int32), q18.2) else some ((1 : Int32), q18.2)) := by
      rw [bind_some9]
      dsimp only
      rw [if_neg (by decide), ck_yes o1]
    rw [e, y1, bind_some9]
    refine ⟨h2, ?_, y2, x3.tr y3, fun z => ⟨⟨(keep _ (by omega) (by omega) (by omega) (by omega)).trans e0, (keep _ (by omega) (by omega) (by omega) (by omega)).trans n1, (y5 _ (by omega) (by omega)).trans x41, fun w => ?_⟩, (y4 z).1, (y4 z).2, (keep _ (by omega) (by omega) (by omega) (by omega)).trans n6, (keep _ (by omega) (by omega) (by omega) (by omega)).trans n7⟩⟩
    · dsimp only
      cases (pBr T (pNm T last (a + 1)).2.1).1 with
      | false => rw [if_neg (fun z => Bool.noConfusion z), if_pos rfl]
      | true => rw [if_pos rfl, if_neg (by decide)]
    · rw [jmp_no n73 n71] at w; cases w
theorem c_rdRS (hB : B + 8 ≤ 480) (q : atC h T a) {v : Int32} (n : stN h B v) : pOut B h T (pRs T a v) (f_X3_readRightSide 9 (nI B) h) := by
  obtain ⟨⟨⟨o, r0, r1, r2⟩, -, ⟨o11, l11⟩, -⟩, e4, ha⟩ := id q
  have b0 : nI B + (0 : Int32) = nI B := Int32.add_zero _
  have tB : (nI B).toNatClampNeg = B := zi_nat (by omega)
  have gB : ¬ nI B < 0 := zi_neg (by omega)
  have lB : ¬ 480 ≤ B := by omega
  have pe := c_peek q
  have k10 : ((1 : Int32) = 0) = False := eq_false (by decide)
  -- behind the letter c
  have go : ∀ c : Int32, c ≠ 0 → pk T a = c → (c = 65 ∨ c = 67 ∨ c = 74 ∨ c = 87) → ∃ m, f_X3_readRightSide 9 (nI B) h = f_X3_readRightSide_35 9 (nI B) c h ∧ pI (pE h 11 B c) 404 9 (nI (a + 1)) = m ∧ atC m T (a + 1) ∧ pcf B h m ∧ zE m 11 B = c ∧ stN m B v := fun c c0 hc hcs => by
    obtain ⟨u1, u2, u3, u4⟩ := c_let (B := B) q hB (pk_lq c0 hc) c
    refine ⟨_, ?_, rfl, u1, u2, u3, ?_⟩
    · have base : f_X3_readRightSide 9 (nI B) h = (if pk T a = 65 then f_X3_readRightSide_35 9 (nI B) (pk T a) h else if pk T a = 87 then f_X3_readRightSide_35 9 (nI B) (pk T a) h else if pk T a = 67 then f_X3_readRightSide_35 9 (nI B) (pk T a) h else if pk T a = 74 then f_X3_readRightSide_35 9 (nI B) (pk T a) h else (f_X3_readReckoning 9 (nI B) h).bind (fun q7 => ck (isB q7.1) (some (q7.1, q7.2)))) := by
        simp only [f_X3_readRightSide, o10, o00, bh, isO, inR, ck_true, bind_some9, Nat.reduceLeDiff, Nat.reduceEqDiff, and_self, and_true, true_and, false_and, and_false, not_false_eq_true, not_true_eq_false, or_self, or_false, false_or, if_true, if_false, reduceIte, zR_pE, zT_pE, zL_pE, zn_pE, zE_pE, zI_pE, zQ_pE, zJ_pE, zR_pI, zT_pI, zL_pI, zn_pI, zE_pI, zI_pI, zQ_pI, zJ_pI, zR_pR, zT_pR, zL_pR, zn_pR, zE_pR, zI_pR, zQ_pR, zJ_pR, zR_pJ, zT_pJ, zL_pJ, zn_pJ, zE_pJ, zI_pJ, zQ_pJ, zJ_pJ, o, pe]
      rw [base, hc]
      rcases hcs with z | z | z | z <;> (rw [z]; rfl)
    · obtain ⟨n1, n2, ⟨n4, n5⟩, n6, n7⟩ := n
      exact ⟨(u4 _ (by omega)).trans n1, (u4 _ (by omega)).trans n2, ⟨(u4 _ (by omega)).trans n4, (u4 _ (by omega)).trans n5⟩, (u4 _ (by omega)).trans n6, (u4 _ (by omega)).trans n7⟩
  unfold pRs
  by_cases c1 : pk T a = 65
  · rw [if_pos c1]
    obtain ⟨m, g1, g2, g3, g4, g5, g6⟩ := go 65 (by decide) c1 (Or.inl rfl)
    rw [g1]
    have om := g3.1.1.1
    have := (c_rdAC (a := a) (last := 57) hB g3 g5 g6 (by decide) (by decide)).pre g4
    have e : f_X3_readRightSide_35 9 (nI B) 65 h = (f_X3_readDigit 9 (nI B) 57 m).bind (fun q16 => if q16.1 = 0 then some ((0 : Int32), q16.2) else ck (isO q16.2 9 4) ((f_X3_readBracket 9 (nI B) q16.2).bind (fun q18 => if q18.1 = 0 then some ((0 : Int32), q18.2) else some ((1 : Int32), q18.2)))) := by
      unfold f_X3_readRightSide_35
      rw [ck_yes o, r1, ck_yes o11, b0, l11, ck_yes (zi_in (by omega : B < 480) (by omega)), tB]
      unfold bh
      dsimp only
      rw [show zI (pE h 11 B 65) 404 9 = nI a from e4, zi_one, g2, if_pos rfl]
    rw [e]
    exact this
  · rw [if_neg c1]
    by_cases c2 : pk T a = 67
    · rw [if_pos c2]
      obtain ⟨m, g1, g2, g3, g4, g5, g6⟩ := go 67 (by decide) c2 (Or.inr (Or.inl rfl))
      rw [g1]
      have := (c_rdAC (a := a) (last := 55) hB g3 g5 g6 (by decide) (by decide)).pre g4
      have e : f_X3_readRightSide_35 9 (nI B) 67 h = (f_X3_readDigit 9 (nI B) 55 m).bind (fun q16 => if q16.1 = 0 then some ((0 : Int32), q16.2) else ck (isO q16.2 9 4) ((f_X3_readBracket 9 (nI B) q16.2).bind (fun q18 => if q18.1 = 0 then some ((0 : Int32), q18.2) else some ((1 : Int32), q18.2)))) := by
        unfold f_X3_readRightSide_35
        rw [ck_yes o, r1, ck_yes o11, b0, l11, ck_yes (zi_in (by omega : B < 480) (by omega)), tB]
        unfold bh
        dsimp only
        rw [show zI (pE h 11 B 67) 404 9 = nI a from e4, zi_one, g2, if_neg (by decide), if_pos rfl]
      rw [e]
      exact this
    · rw [if_neg c2]
      by_cases c3 : pk T a = 74
      · rw [if_pos c3]
        obtain ⟨m, g1, g2, g3, g4, g5, g6⟩ := go 74 (by decide) c3 (Or.inr (Or.inr (Or.inl rfl)))
        rw [g1]
        obtain ⟨n1, n2, ⟨n4, n5⟩, n6, n7⟩ := g6
        obtain ⟨h2, y1, y2, y3, y4, y5⟩ := c_bracket hB g3 n4 n5
        refine ⟨h2, ?_, y2, g4.tr y3, fun z => ⟨⟨(y5 _ (by omega) (by omega)).trans g5, (y5 _ (by omega) (by omega)).trans n1, (y5 _ (by omega) (by omega)).trans n2, fun w => ?_⟩, (y4 z).1, (y4 z).2, (y5 _ (by omega) (by omega)).trans n6, (y5 _ (by omega) (by omega)).trans n7⟩⟩
        · have ib := isB_if (pBr T (a + 1)).1
          dsimp only
          generalize (if (pBr T (a + 1)).1 = true then (1 : Int32) else 0) = r9 at *
          unfold f_X3_readRightSide_35
          rw [ck_yes o, r1, ck_yes o11, b0, l11, ck_yes (zi_in (by omega : B < 480) (by omega)), tB]
          unfold bh
          dsimp only
          rw [show zI (pE h 11 B 74) 404 9 = nI a from e4, zi_one, g2, if_neg (by decide), if_neg (by decide), if_pos rfl, y1, bind_some9]
          exact ck_yes (of_eq_true ib)
        · rw [jmp_no (by decide) (by decide)] at w; cases w
      · rw [if_neg c3]
        by_cases c4 : pk T a = 87
        · rw [if_pos c4]
          obtain ⟨m, g1, g2, g3, g4, g5, g6⟩ := go 87 (by decide) c4 (Or.inr (Or.inr (Or.inr rfl)))
          rw [g1]
          obtain ⟨n1, n2, ⟨n4, n5⟩, n6, n7⟩ := g6
          refine ⟨m, ?_, g3, g4, fun z => ⟨⟨g5, n1, n2, fun w => ?_⟩, n4, n5, n6, n7⟩⟩
          · unfold f_X3_readRightSide_35
            rw [ck_yes o, r1, ck_yes o11, b0, l11, ck_yes (zi_in (by omega : B < 480) (by omega)), tB]
            unfold bh
            dsimp only
            rw [show zI (pE h 11 B 87) 404 9 = nI a from e4, zi_one, g2, if_neg (by decide), if_neg (by decide), if_neg (by decide)]
            rfl
          · rw [jmp_no (by decide) (by decide)] at w; cases w
        · rw [if_neg c4]
          obtain ⟨h1, x1, x2, x3, x4⟩ := c_rdR hB q n
          refine ⟨h1, ?_, x2, x3, x4⟩
          have ib := isB_if (pRk T a v).1
          generalize (if (pRk T a v).1 = true then (1 : Int32) else 0) = r9 at *
          simp only [f_X3_readRightSide, o10, o00, bh, isO, inR, ck_true, bind_some9, Nat.reduceLeDiff, Nat.reduceEqDiff, and_self, and_true, true_and, false_and, and_false, not_false_eq_true, not_true_eq_false, or_self, or_false, false_or, if_true, if_false, reduceIte, zR_pE, zT_pE, zL_pE, zn_pE, zE_pE, zI_pE, zQ_pE, zJ_pE, zR_pI, zT_pI, zL_pI, zn_pI, zE_pI, zI_pI, zQ_pI, zJ_pI, zR_pR, zT_pR, zL_pR, zn_pR, zE_pR, zI_pR, zQ_pR, zJ_pR, zR_pJ, zT_pJ, zL_pJ, zn_pJ, zE_pJ, zI_pJ, zQ_pJ, zJ_pJ, o, pe, eq_false c1, eq_false c2, eq_false c3, eq_false c4, x1, ib]
end P
section P
variable {h : Hp} {T : List Int32} {a B : Nat}
theorem c_zero8 (hB : B + 8 ≤ 480) : ∀ (m i fuel : Nat) (h : Hp), atC h T a → i + m = 8 → m < fuel → (∀ j, j < i → zE h 11 (B + j) = 0) → ∃ fu h1, f_X3_readStep_2 fuel 9 (nI B) (nI i) h = f_X3_readStep_2 (fu + 1) 9 (nI B) 8 h1 ∧ atC h1 T a ∧ pcf B h h1 ∧ ∀ j, j < 8 → zE h1 11 (B + j) = 0
  | m, i, 0, h, _, _, hf, _ => absurd hf (Nat.not_lt_zero _)
  | 0, i, fuel + 1, h, q, hi, hf, hz => by
    have e : i = 8 := by omega
    rw [e] at hz ⊢
    exact ⟨fuel, h, rfl, q, pcf.rf B h, hz⟩
  | m + 1, i, fuel + 1, h, q, hi, hf, hz => by
    have c : ¬ (8 : Int32) ≤ nI i := zi_le0 (a := 8) (by omega) (by omega) (by omega)
    obtain ⟨⟨⟨o, r0, r1, r2⟩, -, ⟨o11, l11⟩, -⟩, e4, ha⟩ := id q
    obtain ⟨s1, s2, s3, s4, tB, gB, lB⟩ := c_put (j := i) q hB (by omega) 0
    obtain ⟨fu, h1, y1, y2, y3, y4⟩ := c_zero8 hB m (i + 1) fuel _ s1 (by omega) (by omega) (fun j hj => by
      by_cases z : j = i
      · rw [z]; exact s3
      · rw [s4 _ (by omega)]; exact hz j (by omega))
    refine ⟨fu, h1, ?_, y2, s2.tr y3, y4⟩
    rw [← y1]
    have ad : nI B + nI i = nI (B + i) := zi_add _ _
    simp only [f_X3_readStep_2, o10, o00, bh, isO, inR, ck_true, bind_some9, Nat.reduceLeDiff, Nat.reduceEqDiff, and_self, and_true, true_and, false_and, and_false, not_false_eq_true, not_true_eq_false, or_self, or_false, false_or, if_true, if_false, reduceIte, zR_pE, zT_pE, zL_pE, zn_pE, zE_pE, zI_pE, zQ_pE, zJ_pE, zR_pI, zT_pI, zL_pI, zn_pI, zE_pI, zI_pI, zQ_pI, zJ_pI, zR_pR, zT_pR, zL_pR, zn_pR, zE_pR, zI_pR, zQ_pR, zJ_pR, zR_pJ, zT_pJ, zL_pJ, zn_pJ, zE_pJ, zI_pJ, zQ_pJ, zJ_pJ, c, o, r1, o11, l11, ad, tB, gB, lB, zi_one]
/-- behind the letter: G -/
theorem c_stG (hB : B + 8 ≤ 480) {m : Hp} (q : atC m T (a + 1)) (e0 : zE m 11 B = 71) (n : stN m B 0) : pOut B m T ((pNm T 57 (a + 1)).1, (pNm T 57 (a + 1)).2.1, (71, 0, (pNm T 57 (a + 1)).2.2, (-1, 0), (-1, 0)), a + 1) ((f_X3_readDigit 9 (nI B) 57 m).bind (fun q38 => ck (isB q38.1) (some (q38.1, q38.2)))) := by
  obtain ⟨n1, n2, ⟨n4, n5⟩, n6, n7⟩ := n
  obtain ⟨h1, x1, x2, x3, x4, x5⟩ := c_digit hB q 57
  rw [x1, bind_some9]
  refine ⟨h1, ck_yes (of_eq_true (isB_if _)), x2, x3, fun z => ⟨⟨(x5 _ (by omega) (by omega)).trans e0, (x5 _ (by omega) (by omega)).trans n1, (x4 z).1, fun _ => (x4 z).2⟩, (x5 _ (by omega) (by omega)).trans n4, (x5 _ (by omega) (by omega)).trans n5, (x5 _ (by omega) (by omega)).trans n6, (x5 _ (by omega) (by omega)).trans n7⟩⟩
/-- I -/
theorem c_stI (hB : B + 8 ≤ 480) {m : Hp} (q : atC m T (a + 1)) (e0 : zE m 11 B = 73) (n : stN m B 0) : pOut B m T (if (pBr T (a + 1)).1 = false then (false, (pBr T (a + 1)).2.1, q00, 0) else ((pNm T 57 (pBr T (a + 1)).2.1).1, (pNm T 57 (pBr T (a + 1)).2.1).2.1, (73, 0, (pNm T 57 (pBr T (a + 1)).2.1).2.2, (pBr T (a + 1)).2.2, (-1, 0)), (pBr T (a + 1)).2.1)) ((f_X3_readBracket 9 (nI B) m).bind (fun q41 => if q41.1 = 0 then some ((0 : Int32), q41.2) else ck (isO q41.2 9 4) ((f_X3_readDigit 9 (nI B) 57 q41.2).bind (fun q43 => if q43.1 = 0 then some ((0 : Int32), q43.2) else some ((1 : Int32), q43.2))))) := by
  obtain ⟨n1, n2, ⟨n4, n5⟩, n6, n7⟩ := n
  obtain ⟨h1, x1, x2, x3, x4, x5⟩ := c_bracket hB q n4 n5
  cases p1 : (pBr T (a + 1)).1 with
  | false =>
    rw [p1, if_neg (fun z => Bool.noConfusion z)] at x1
    rw [if_pos rfl, x1]
    exact pOut.no x2 x3
  | true =>
    rw [p1, if_pos rfl] at x1
    rw [if_neg (show ¬ true = false from fun z => by cases z), x1]
    obtain ⟨x41, x42⟩ := x4 p1
    have o1 := x2.1.1.1
    generalize (pBr T (a + 1)).2.1 = b at *
    obtain ⟨h2, y1, y2, y3, y4, y5⟩ := c_digit hB x2 57
    have keep : ∀ j, j ≠ B + 2 → j ≠ B + 3 → j ≠ B + 4 → j ≠ B + 5 → zE h2 11 j = zE m 11 j := fun j h2 h3 h4 h5 => (y5 j h2 h3).trans (x5 j h4 h5)
    have e : ((some ((1 : Int32), h1)).bind (fun q41 => if q41.1 = 0 then some ((0 : Int32), q41.2) else ck (isO q41.2 9 4) ((f_X3_readDigit 9 (nI B) 57 q41.2).bind (fun q43 => if q43.1 = 0 then some ((0 : Int32), q43.2) else some ((1 : Int32), q43.2))))) = (f_X3_readDigit 9 (nI B) 57 h1).bind (fun q43 => if q43.1 = 0 then some ((0 : Int32), q43.2) else some ((1 : Int32), q43.2)) := by
      rw [bind_some9]
      dsimp only
      rw [if_neg (by decide), ck_yes o1]
    rw [e, y1, bind_some9]
    refine ⟨h2, ?_, y2, x3.tr y3, fun z => ⟨⟨(keep _ (by omega) (by omega) (by omega) (by omega)).trans e0, (keep _ (by omega) (by omega) (by omega) (by omega)).trans n1, (y4 z).1, fun _ => (y4 z).2⟩, (y5 _ (by omega) (by omega)).trans x41, (y5 _ (by omega) (by omega)).trans x42, (keep _ (by omega) (by omega) (by omega) (by omega)).trans n6, (keep _ (by omega) (by omega) (by omega) (by omega)).trans n7⟩⟩
    dsimp only
    cases (pNm T 57 b).1 with
    | false => rw [if_neg (fun z => Bool.noConfusion z), if_pos rfl]
    | true => rw [if_pos rfl, if_neg (by decide)]
/-- T, E -/
theorem c_stT (hB : B + 8 ≤ 480) {m : Hp} (q : atC m T (a + 1)) {c : Int32} (e0 : zE m 11 B = c) (n : stN m B 0) (n73 : c ≠ 73) (n71 : c ≠ 71) : pOut B m T ((pBr T (a + 1)).1, (pBr T (a + 1)).2.1, (c, 0, 0, (pBr T (a + 1)).2.2, (-1, 0)), 0) ((f_X3_readBracket 9 (nI B) m).bind (fun q61 => ck (isB q61.1) (some (q61.1, q61.2)))) := by
  obtain ⟨n1, n2, ⟨n4, n5⟩, n6, n7⟩ := n
  obtain ⟨h1, x1, x2, x3, x4, x5⟩ := c_bracket hB q n4 n5
  rw [x1, bind_some9]
  refine ⟨h1, ck_yes (of_eq_true (isB_if _)), x2, x3, fun z => ⟨⟨(x5 _ (by omega) (by omega)).trans e0, (x5 _ (by omega) (by omega)).trans n1, (x5 _ (by omega) (by omega)).trans n2, fun w => ?_⟩, (x4 z).1, (x4 z).2, (x5 _ (by omega) (by omega)).trans n6, (x5 _ (by omega) (by omega)).trans n7⟩⟩
  rw [jmp_no n73 n71] at w; cases w
/-- S -/
theorem c_stS (hB : B + 8 ≤ 480) {m : Hp} (q : atC m T a) (e0 : zE m 11 B = 83) (n : stN m B 0) {x : Option (Int32 × Hp)} (hx : x = (f_X3_accept 9 40 m).bind (fun q47 => if q47.1 = 0 then some ((0 : Int32), q47.2) else ck (isO q47.2 9 4) ((f_X3_readValue 9 (nI B + 4) q47.2).bind (fun q49 => if q49.1 = 0 then some ((0 : Int32), q49.2) else ck (isO q49.2 9 4) ((f_X3_accept 9 44 q49.2).bind (fun q52 => if q52.1 = 0 then some ((0 : Int32), q52.2) else ck (isO q52.2 9 4) ((f_X3_readValue 9 (nI B + 6) q52.2).bind (fun q55 => if q55.1 = 0 then some ((0 : Int32), q55.2) else ck (isO q55.2 9 4) ((f_X3_accept 9 41 q55.2).bind (fun q58 => if q58.1 = 0 then some ((0 : Int32), q58.2) else some ((1 : Int32), q58.2)))))))))))  : pOut B m T (pTw T a) x := by
  obtain ⟨n1, n2, ⟨n4, n5⟩, n6, n7⟩ := n
  have b4 : nI B + (4 : Int32) = nI (B + 4) := zi_add _ 4
  have b6 : nI B + (6 : Int32) = nI (B + 6) := zi_add _ 6
  have k10 : ((1 : Int32) = 0) = False := eq_false (by decide)
  rw [b4, b6] at hx
  obtain ⟨h1, x1, x2, x3, x4⟩ := c_accept (B := B) q (c := 40) (by decide)
  unfold pTw
  cases p1 : (pTk T 40 a).1 with
  | false =>
    rw [p1, if_neg (fun z => Bool.noConfusion z)] at x1
    rw [if_pos rfl, hx, x1]
    exact pOut.no x2 x3
  | true =>
    rw [p1, if_pos rfl] at x1
    rw [if_neg (show ¬ true = false from fun z => by cases z)]
    have o1 := x2.1.1.1
    generalize (pTk T 40 a).2 = a1 at *
    obtain ⟨h2, y1, y2, y3, ⟨y4, y5⟩, y6⟩ := c_rdV (B := B) (s := B + 4) (by omega) hB x2 (by rw [x4]; exact n4) (by rw [x4]; exact n5)
    have o2 := y2.1.1.1
    cases p2 : (pVl T a1).1 with
    | false =>
      rw [p2, if_neg (fun z => Bool.noConfusion z)] at y1
      rw [if_pos rfl]
      have : x = some (0, h2) := by
        rw [hx]
        simp only [x1, bind_some9, k10, if_false, y1, if_true]
        rw [ck_yes o1]
      rw [this]
      exact pOut.no y2 (x3.tr y3)
    | true =>
      rw [p2, if_pos rfl] at y1
      rw [if_neg (show ¬ true = false from fun z => by cases z)]
      have y4 : zE h2 11 (B + 4) = (pVl T a1).2.2.1 := y4
      have y5 : zE h2 11 (B + 5) = (pVl T a1).2.2.2 := y5
      generalize (pVl T a1).2.2 = xx at *
      generalize (pVl T a1).2.1 = a2 at *
      obtain ⟨h3, z1, z2, z3, z4⟩ := c_accept (B := B) y2 (c := 44) (by decide)
      have o3 := z2.1.1.1
      cases p3 : (pTk T 44 a2).1 with
      | false =>
        rw [p3, if_neg (fun z => Bool.noConfusion z)] at z1
        rw [if_pos rfl]
        have : x = some (0, h3) := by
          rw [hx]
          simp only [x1, bind_some9, k10, if_false, y1, if_true, z1]
          rw [ck_yes o1, ck_yes o2]
        rw [this]
        exact pOut.no z2 ((x3.tr y3).tr z3)
      | true =>
        rw [p3, if_pos rfl] at z1
        rw [if_neg (show ¬ true = false from fun z => by cases z)]
        generalize (pTk T 44 a2).2 = a3 at *
        obtain ⟨h4, w1, w2, w3, ⟨w4, w5⟩, w6⟩ := c_rdV (B := B) (s := B + 6) (by omega) hB z2 (by rw [z4, y6 _ (by omega) (by omega), x4]; exact n6) (by rw [z4, y6 _ (by omega) (by omega), x4]; exact n7)
        have o4 := w2.1.1.1
        cases p4 : (pVl T a3).1 with
        | false =>
          rw [p4, if_neg (fun z => Bool.noConfusion z)] at w1
          rw [if_pos rfl]
          have : x = some (0, h4) := by
            rw [hx]
            simp only [x1, bind_some9, k10, if_false, y1, if_true, z1, w1]
            rw [ck_yes o1, ck_yes o2, ck_yes o3]
          rw [this]
          exact pOut.no w2 (((x3.tr y3).tr z3).tr w3)
        | true =>
          rw [p4, if_pos rfl] at w1
          rw [if_neg (show ¬ true = false from fun z => by cases z)]
          have w4 : zE h4 11 (B + 6) = (pVl T a3).2.2.1 := w4
          have w5 : zE h4 11 (B + 7) = (pVl T a3).2.2.2 := w5
          generalize (pVl T a3).2.2 = yy at *
          generalize (pVl T a3).2.1 = a4 at *
          obtain ⟨h5, v1, v2, v3, v4⟩ := c_accept (B := B) w2 (c := 41) (by decide)
          have keep : ∀ j, j ≠ B + 4 → j ≠ B + 5 → j ≠ B + 6 → j ≠ B + 7 → zE h5 11 j = zE m 11 j := fun j h4 h5 h6 h7 => by rw [v4, w6 j h6 h7, z4, y6 j h4 h5, x4]
          refine ⟨h5, ?_, v2, ((((x3.tr y3).tr z3).tr w3).tr v3), fun _ => ⟨⟨(keep _ (by omega) (by omega) (by omega) (by omega)).trans e0, (keep _ (by omega) (by omega) (by omega) (by omega)).trans n1, (keep _ (by omega) (by omega) (by omega) (by omega)).trans n2, fun z => by cases z⟩, ?_, ?_, by rw [v4]; exact w4, by rw [v4]; exact w5⟩⟩
          · rw [hx]
            dsimp only
            cases p5 : (pTk T 41 a4).1 with
            | false =>
              rw [p5, if_neg (fun z => Bool.noConfusion z)] at v1
              rw [if_neg (fun z => Bool.noConfusion z)]
              simp only [x1, bind_some9, k10, if_false, y1, if_true, z1, w1, v1]
              rw [ck_yes o1, ck_yes o2, ck_yes o3, ck_yes o4]
            | true =>
              rw [p5, if_pos rfl] at v1
              rw [if_pos rfl]
              simp only [x1, bind_some9, k10, if_false, y1, if_true, z1, w1, v1]
              rw [ck_yes o1, ck_yes o2, ck_yes o3, ck_yes o4]
          · rw [v4, w6 _ (by omega) (by omega), z4]; exact y4
          · rw [v4, w6 _ (by omega) (by omega), z4]; exact y5
end P
section P
variable {h : Hp} {T : List Int32} {a B : Nat}
theorem c_stL (hB : B + 8 ≤ 480) {k2 : Hp} (u1 : atC k2 T a) (al : a < T.length) (z : ∀ j, j < 8 → j ≠ 4 → j ≠ 6 → zE k2 11 (B + j) = 0) (z4 : zE k2 11 (B + 4) = -1) (u3 : zE k2 11 (B + 6) = -1) {w : Int32} {m : Hp} (hm : pI (pE k2 11 (B + 1) w) 404 9 (nI (a + 1)) = m) : pOut B k2 T (if (pTk T 61 (a + 1)).1 = false then (false, (pTk T 61 (a + 1)).2, q00, 0) else pRs T (pTk T 61 (a + 1)).2 w) ((f_X3_accept 9 61 m).bind (fun q22 => if q22.1 = 0 then some ((0 : Int32), q22.2) else ck (isO q22.2 9 4) ((f_X3_readRightSide 9 (nI B) q22.2).bind (fun q24 => if q24.1 = 0 then some ((0 : Int32), q24.2) else some ((1 : Int32), q24.2))))) := by
  obtain ⟨v1, v2, v3, v4, -⟩ := c_put (j := 1) u1 hB (by omega) w
  obtain ⟨w1, w2⟩ := v1.step (B := B) (a1 := a + 1) al
  have wE : zE m = zE (pE k2 11 (B + 1) w) := by rw [← hm]; rfl
  rw [hm] at w1 w2
  have f : pcf B k2 m := v2.tr w2
  have m1 : zE m 11 (B + 1) = w := by rw [wE]; exact v3
  have m2 : ∀ j, j ≠ B + 1 → zE m 11 j = zE k2 11 j := fun j hj => by rw [wE]; exact v4 j hj
  clear wE v1 v2 v3 v4 w2 hm
  obtain ⟨h2, y1, y2, y3, y4⟩ := c_accept (B := B) w1 (c := 61) (by decide)
  have o3 := y2.1.1.1
  have nn : stN h2 B w := by
    have e : ∀ j, j ≠ B + 1 → zE h2 11 j = zE k2 11 j := fun j hj => by rw [y4]; exact m2 j hj
    exact ⟨by rw [y4]; exact m1, (e _ (by omega)).trans (z 2 (by omega) (by omega) (by omega)), ⟨(e _ (by omega)).trans z4, (e _ (by omega)).trans (z 5 (by omega) (by omega) (by omega))⟩, (e _ (by omega)).trans u3, (e _ (by omega)).trans (z 7 (by omega) (by omega) (by omega))⟩
  cases p1 : (pTk T 61 (a + 1)).1 with
  | false =>
    rw [p1, if_neg (fun z => Bool.noConfusion z)] at y1
    rw [if_pos rfl, y1]
    exact pOut.no y2 (f.tr y3)
  | true =>
    rw [p1, if_pos rfl] at y1
    rw [if_neg (show ¬ true = false from fun z => by cases z), y1, bind_some9]
    dsimp only
    rw [if_neg (show ¬ (1 : Int32) = 0 by decide), ck_yes o3]
    obtain ⟨h3, q1, q2, q3, q4⟩ := c_rdRS hB y2 nn
    refine ⟨h3, ?_, q2, (f.tr y3).tr q3, q4⟩
    rw [q1, bind_some9]
    cases (pRs T (pTk T 61 (a + 1)).2 w).1 with
    | false => rw [if_neg (fun z => Bool.noConfusion z)]; rfl
    | true => rw [if_pos rfl]; rfl
theorem c_rdSt (hB : B + 8 ≤ 480) (q : atC h T a) : pOut B h T (pSt T a) (f_X3_readStep 9 (nI B) h) := by
  obtain ⟨fu, h1, x1, x2, x3, x4⟩ := c_zero8 hB 8 0 fz h q (by omega) (fz_big (by omega)) (fun j hj => absurd hj (Nat.not_lt_zero _))
  have zz : nI 0 = (0 : Int32) := rfl
  rw [zz] at x1
  unfold f_X3_readStep
  rw [x1]
  refine pOut.pre x3 ?_
  obtain ⟨⟨⟨o, r0, r1, r2⟩, -, ⟨o11, l11⟩, -⟩, e4, ha⟩ := id x2
  have b4 : nI B + (4 : Int32) = nI (B + 4) := zi_add _ 4
  have b6 : nI B + (6 : Int32) = nI (B + 6) := zi_add _ 6
  have b1 : nI B + (1 : Int32) = nI (B + 1) := zi_add _ 1
  have b0 : nI B + (0 : Int32) = nI B := Int32.add_zero _
  have k10 : ((1 : Int32) = 0) = False := eq_false (by decide)
  have c8 : (8 : Int32) ≤ 8 := by decide
  obtain ⟨s1, s2, s3, s4, t4, g4, l4⟩ := c_put (j := 4) x2 hB (by omega) (-1)
  generalize hg1 : pE h1 11 (B + 4) (-1) = k1 at *
  obtain ⟨⟨⟨o1, -, r11, -⟩, -, ⟨o111, l111⟩, -⟩, -⟩ := id s1
  obtain ⟨u1, u2, u3, u4, t6, g6, l6⟩ := c_put (j := 6) s1 hB (by omega) (-1)
  generalize hg2 : pE k1 11 (B + 6) (-1) = k2 at *
  have f2 : pcf B h1 k2 := s2.tr u2
  refine pOut.pre f2 ?_
  obtain ⟨⟨⟨o2, -, r12, -⟩, -, ⟨o112, l112⟩, -⟩, e42, -⟩ := id u1
  have z : ∀ j, j < 8 → j ≠ 4 → j ≠ 6 → zE k2 11 (B + j) = 0 := fun j h1 h2 h3 => by rw [u4 _ (by omega), s4 _ (by omega)]; exact x4 j h1
  have z4 : zE k2 11 (B + 4) = -1 := (u4 _ (by omega)).trans s3
  have pe := c_peek u1
  have lo := c_local (pk T a) k2
  have base : f_X3_readStep_2 (fu + 1) 9 (nI B) 8 h1 = (if (if pk T a < 97 ∨ 104 < pk T a then (0 : Int32) else 1) = 0 then (if pk T a = 84 then f_X3_readStep_131 9 (nI B) (pk T a) k2 else if pk T a = 83 then f_X3_readStep_131 9 (nI B) (pk T a) k2 else if pk T a = 73 then f_X3_readStep_131 9 (nI B) (pk T a) k2 else if pk T a = 71 then f_X3_readStep_131 9 (nI B) (pk T a) k2 else if pk T a = 69 then f_X3_readStep_131 9 (nI B) (pk T a) k2 else some (0, k2)) else (f_X3_accept 9 61 (pI (pE k2 11 (B + 1) (pk T a - 97)) 404 9 (nI (a + 1)))).bind (fun q22 => if q22.1 = 0 then some ((0 : Int32), q22.2) else ck (isO q22.2 9 4) ((f_X3_readRightSide 9 (nI B) q22.2).bind (fun q24 => if q24.1 = 0 then some ((0 : Int32), q24.2) else some ((1 : Int32), q24.2))))) := by
    obtain ⟨-, -, -, -, t1, g1, l1⟩ := c_put (j := 1) u1 hB (by omega) (pk T a - 97)
    simp only [f_X3_readStep_2, o10, o00, bh, isO, inR, ck_true, bind_some9, Nat.reduceLeDiff, Nat.reduceEqDiff, and_self, and_true, true_and, false_and, and_false, not_false_eq_true, not_true_eq_false, or_self, or_false, false_or, if_true, if_false, reduceIte, zR_pE, zT_pE, zL_pE, zn_pE, zE_pE, zI_pE, zQ_pE, zJ_pE, zR_pI, zT_pI, zL_pI, zn_pI, zE_pI, zI_pI, zQ_pI, zJ_pI, zR_pR, zT_pR, zL_pR, zn_pR, zE_pR, zI_pR, zQ_pR, zJ_pR, zR_pJ, zT_pJ, zL_pJ, zn_pJ, zE_pJ, zI_pJ, zQ_pJ, zJ_pJ, c8, o, r1, o11, l11, b4, t4, g4, l4, hg1, r11, o111, l111, b6, t6, g6, l6, hg2, pe, lo, o2, r12, o112, l112, b1, t1, g1, l1, e42, zi_one]
  rw [base]
  unfold pSt
  by_cases c : pk T a < 97 ∨ 104 < pk T a
  · rw [if_pos c, if_pos c, if_pos rfl]
    -- behind a letter
    have go : ∀ c : Int32, c ≠ 0 → pk T a = c → ∃ m, pI (pE k2 11 B c) 404 9 (nI (a + 1)) = m ∧ atC m T (a + 1) ∧ pcf B k2 m ∧ zE m 11 B = c ∧ stN m B 0 := fun c c0 hc => by
      obtain ⟨v1, v2, v3, v4⟩ := c_let (B := B) u1 hB (pk_lq c0 hc) c
      refine ⟨_, rfl, v1, v2, v3, ?_⟩
      refine ⟨(v4 _ (by omega)).trans (z 1 (by omega) (by omega) (by omega)), (v4 _ (by omega)).trans (z 2 (by omega) (by omega) (by omega)), ⟨(v4 _ (by omega)).trans z4, (v4 _ (by omega)).trans (z 5 (by omega) (by omega) (by omega))⟩, (v4 _ (by omega)).trans u3, (v4 _ (by omega)).trans (z 7 (by omega) (by omega) (by omega))⟩
    have tB : (nI B).toNatClampNeg = B := zi_nat (by omega)
    have pre : ∀ (c : Int32) (m : Hp), pI (pE k2 11 B c) 404 9 (nI (a + 1)) = m → f_X3_readStep_131 9 (nI B) c k2 = (if c = (71 : Int32) then ((f_X3_readDigit 9 (nI B) 57 m).bind (fun q38 => ck (isB (q38.1)) (some (q38.1, q38.2)))) else (if c = (73 : Int32) then ((f_X3_readBracket 9 (nI B) m).bind (fun q41 => if (q41.1) = (0) then (some ((0 : Int32), q41.2)) else (ck (isO (q41.2) 9 4) ((f_X3_readDigit 9 (nI B) 57 (q41.2)).bind (fun q43 => if (q43.1) = (0) then (some ((0 : Int32), q43.2)) else (some ((1 : Int32), q43.2))))))) else (if c = (83 : Int32) then ((f_X3_accept 9 40 m).bind (fun q47 => if (q47.1) = (0) then (some ((0 : Int32), q47.2)) else (ck (isO (q47.2) 9 4) ((f_X3_readValue 9 (nI B + 4) (q47.2)).bind (fun q49 => if (q49.1) = (0) then (some ((0 : Int32), q49.2)) else (ck (isO (q49.2) 9 4) ((f_X3_accept 9 44 (q49.2)).bind (fun q52 => if (q52.1) = (0) then (some ((0 : Int32), q52.2)) else (ck (isO (q52.2) 9 4) ((f_X3_readValue 9 (nI B + 6) (q52.2)).bind (fun q55 => if (q55.1) = (0) then (some ((0 : Int32), q55.2)) else (ck (isO (q55.2) 9 4) ((f_X3_accept 9 41 (q55.2)).bind (fun q58 => if (q58.1) = (0) then (some ((0 : Int32), q58.2)) else (some ((1 : Int32), q58.2)))))))))))))))) else ((f_X3_readBracket 9 (nI B) m).bind (fun q61 => ck (isB (q61.1)) (some (q61.1, q61.2))))))) := fun c m hm => by
      unfold f_X3_readStep_131
      rw [ck_yes o2, r12, ck_yes o112, b0, l112, ck_yes (zi_in (by omega : B < 480) (by omega)), tB]
      unfold bh
      dsimp only
      rw [show zI (pE k2 11 B c) 404 9 = nI a from e42, zi_one, hm]
    have eC : (pk T a = 84 ∨ pk T a = 83 ∨ pk T a = 73 ∨ pk T a = 71 ∨ pk T a = 69) → (if pk T a = 84 then f_X3_readStep_131 9 (nI B) (pk T a) k2 else if pk T a = 83 then f_X3_readStep_131 9 (nI B) (pk T a) k2 else if pk T a = 73 then f_X3_readStep_131 9 (nI B) (pk T a) k2 else if pk T a = 71 then f_X3_readStep_131 9 (nI B) (pk T a) k2 else if pk T a = 69 then f_X3_readStep_131 9 (nI B) (pk T a) k2 else some (0, k2)) = f_X3_readStep_131 9 (nI B) (pk T a) k2 := fun hc => by
      by_cases d1 : pk T a = 84
      · rw [if_pos d1]
      · rw [if_neg d1]
        by_cases d2 : pk T a = 83
        · rw [if_pos d2]
        · rw [if_neg d2]
          by_cases d3 : pk T a = 73
          · rw [if_pos d3]
          · rw [if_neg d3]
            by_cases d4 : pk T a = 71
            · rw [if_pos d4]
            · rw [if_neg d4, if_pos]
              rcases hc with y | y | y | y | y
              · exact absurd y d1
              · exact absurd y d2
              · exact absurd y d3
              · exact absurd y d4
              · exact y
    by_cases c1 : pk T a = 71
    · rw [if_pos c1, eC (Or.inr (Or.inr (Or.inr (Or.inl c1))))]
      obtain ⟨m, g1, g2, g3, g4, g5⟩ := go (pk T a) (by rw [c1]; decide) rfl
      rw [pre (pk T a) m g1, if_pos c1]
      exact (c_stG hB g2 (g4.trans c1) g5).pre g3
    · rw [if_neg c1]
      by_cases c2 : pk T a = 73
      · rw [if_pos c2, eC (Or.inr (Or.inr (Or.inl c2)))]
        obtain ⟨m, g1, g2, g3, g4, g5⟩ := go (pk T a) (by rw [c2]; decide) rfl
        rw [pre (pk T a) m g1, if_neg c1, if_pos c2]
        exact (c_stI hB g2 (g4.trans c2) g5).pre g3
      · rw [if_neg c2]
        by_cases c3 : pk T a = 83
        · rw [if_pos c3, eC (Or.inr (Or.inl c3))]
          obtain ⟨m, g1, g2, g3, g4, g5⟩ := go (pk T a) (by rw [c3]; decide) rfl
          rw [pre (pk T a) m g1, if_neg c1, if_neg c2, if_pos c3]
          exact (c_stS hB g2 (g4.trans c3) g5 rfl).pre g3
        · rw [if_neg c3]
          by_cases c5 : pk T a = 84 ∨ pk T a = 69
          · rw [if_pos c5]
            have n0 : pk T a ≠ 0 := by rcases c5 with z | z <;> (rw [z]; decide)
            obtain ⟨m, g1, g2, g3, g4, g5⟩ := go (pk T a) n0 rfl
            have := (c_stT hB g2 g4 g5 c2 c1).pre g3
            have e := eC (by
              rcases c5 with y | y
              · exact Or.inl y
              · exact Or.inr (Or.inr (Or.inr (Or.inr y))))
            rw [e, pre (pk T a) m g1, if_neg c1, if_neg c2, if_neg c3]
            exact this
          · rw [if_neg c5, if_neg (fun z => c5 (Or.inl z)), if_neg c3, if_neg c2, if_neg c1, if_neg (fun z => c5 (Or.inr z))]
            exact pOut.no u1 (pcf.rf B k2)
  · rw [if_neg c, if_neg c, if_neg (show ¬ (1 : Int32) = 0 by decide)]
    exact c_stL hB u1 (pk_ge (c := 97) (by decide) (fun y => c (Or.inl y))) z z4 u3 rfl
end P
/-! WHAT THE PARSER MAKES IS IN ORDER -/
theorem pk_digit {T : List Int32} (hT : txt T) {a : Nat} {last : Nat} (hl : last ≤ 126) (h : ¬ (pk T a < 48 ∨ nI last < pk T a)) : ∃ x, x ≤ last - 48 ∧ pk T a - 48 = nI x := by
  obtain ⟨x, x1, x2, -⟩ := pk_nat hT a
  rw [x2] at h ⊢
  have h1 : ¬ x < 48 := fun z => h (Or.inl ((zi_lt (b := 48) (by omega) (by omega)).mpr z))
  have h2 : ¬ last < x := fun z => h (Or.inr ((zi_lt (by omega) (by omega)).mpr z))
  exact ⟨x - 48, by omega, zi_sub (b := 48) (by omega)⟩
theorem pk_local {T : List Int32} (hT : txt T) {a : Nat} (h : ¬ (pk T a < 97 ∨ 104 < pk T a)) : ∃ x, x < 8 ∧ pk T a - 97 = nI x := by
  obtain ⟨x, x1, x2, -⟩ := pk_nat hT a
  rw [x2] at h ⊢
  have h1 : ¬ x < 97 := fun z => h (Or.inl ((zi_lt (b := 97) (by omega) (by omega)).mpr z))
  have h2 : ¬ 104 < x := fun z => h (Or.inr ((zi_lt (a := 104) (by omega) (by omega)).mpr z))
  exact ⟨x - 97, by omega, zi_sub (b := 97) (by omega)⟩
def vlP (x : Int32 × Int32) : Prop := x.1 = -1 ∨ ∃ v, v < 8 ∧ x.1 = nI v
theorem pVl_ok {T : List Int32} (hT : txt T) (a : Nat) : vlP (pVl T a).2.2 := by
  unfold pVl
  split
  · exact Or.inl rfl
  · next c =>
    obtain ⟨x, x1, x2⟩ := pk_local hT c
    exact Or.inr ⟨x, x1, x2⟩
theorem pBr_ok {T : List Int32} (hT : txt T) (a : Nat) : vlP (pBr T a).2.2 := by
  unfold pBr
  split
  · exact Or.inl rfl
  · split
    · exact Or.inl rfl
    · exact pVl_ok hT _
theorem pNm_ok {T : List Int32} (hT : txt T) {last a : Nat} (hl : last ≤ 126) (h : (pNm T (nI last) a).1 = true) : ∃ x, x ≤ last - 48 ∧ (pNm T (nI last) a).2.2 = nI x := by
  unfold pNm at h ⊢
  split at h
  · cases h
  · next c =>
    rw [if_neg c]
    exact pk_digit hT hl c
/-- a step in order, before its label is set in -/
def stpO (q : StpQ) : Prop := vlP q.2.2.2.1 ∧ vlP q.2.2.2.2 ∧ ((stSets q.1 ∧ (∃ v, v < 8 ∧ q.2.1 = nI v) ∧ jmp q = false) ∨ (jmp q = true ∧ ∃ x, x < 10 ∧ q.2.2.1 = nI x) ∨ ((q.1 = 84 ∨ q.1 = 83 ∨ q.1 = 69) ∧ jmp q = false)) ∧ (q.1 = 67 → ∃ d, d < 8 ∧ q.2.2.1 = nI d)
theorem vlP_0 : vlP (-1, 0) := Or.inl rfl
theorem pRk_ok {T : List Int32} (hT : txt T) {a v : Nat} (hv : v < 8) (h : (pRk T a (nI v)).1 = true) : stpO (pRk T a (nI v)).2.2.1 := by
  unfold pRk at h ⊢
  split at h
  · cases h
  · next c1 =>
    rw [if_neg c1]
    by_cases c : pk T (pVl T a).2.1 = 43 ∨ pk T (pVl T a).2.1 = 45 ∨ pk T (pVl T a).2.1 = 42 ∨ pk T (pVl T a).2.1 = 60 ∨ pk T (pVl T a).2.1 = 61
    · rw [if_pos c]
      refine ⟨pVl_ok hT a, pVl_ok hT _, Or.inl ⟨?_, ⟨v, hv, rfl⟩, ?_⟩, fun z => ?_⟩
      · show stSets (pk T (pVl T a).2.1)
        rcases c with c | c | c | c | c <;> (rw [c]; unfold stSets; decide)
      · show jmp (pk T (pVl T a).2.1, _, _, _, _) = false
        unfold jmp
        rcases c with c | c | c | c | c <;> (rw [c]; rfl)
      · have z : pk T (pVl T a).2.1 = 67 := z
        rcases c with c | c | c | c | c <;> (rw [c] at z; exact absurd z (by decide))
    · rw [if_neg c]
      exact ⟨pVl_ok hT a, vlP_0, Or.inl ⟨by show stSets 43; unfold stSets; decide, ⟨v, hv, rfl⟩, rfl⟩, fun z => absurd z (show ¬ (43 : Int32) = 67 by decide)⟩
theorem pRs_ok {T : List Int32} (hT : txt T) {a v : Nat} (hv : v < 8) (h : (pRs T a (nI v)).1 = true) : stpO (pRs T a (nI v)).2.2.1 := by
  unfold pRs at h ⊢
  by_cases c1 : pk T a = 65
  · rw [if_pos c1] at h ⊢
    unfold pAC at h ⊢
    split at h
    · cases h
    · next c =>
      rw [if_neg c]
      exact ⟨pBr_ok hT _, vlP_0, Or.inl ⟨by show stSets 65; unfold stSets; decide, ⟨v, hv, rfl⟩, rfl⟩, fun z => absurd z (show ¬ (65 : Int32) = 67 by decide)⟩
  · rw [if_neg c1] at h ⊢
    by_cases c2 : pk T a = 67
    · rw [if_pos c2] at h ⊢
      unfold pAC at h ⊢
      split at h
      · cases h
      · next c =>
        rw [if_neg c]
        have c : (pNm T (nI 55) (a + 1)).1 = true := by
          have c : ¬ (pNm T (nI 55) (a + 1)).1 = false := c
          cases z : (pNm T (nI 55) (a + 1)).1 with
          | true => rfl
          | false => exact absurd z c
        refine ⟨pBr_ok hT _, vlP_0, Or.inl ⟨by show stSets 67; unfold stSets; decide, ⟨v, hv, rfl⟩, rfl⟩, fun _ => ?_⟩
        obtain ⟨x, x1, x2⟩ := pNm_ok hT (last := 55) (by omega) c
        exact ⟨x, by omega, x2⟩
    · rw [if_neg c2] at h ⊢
      by_cases c3 : pk T a = 74
      · rw [if_pos c3]
        exact ⟨pBr_ok hT _, vlP_0, Or.inl ⟨by show stSets 74; unfold stSets; decide, ⟨v, hv, rfl⟩, rfl⟩, fun z => absurd z (show ¬ (74 : Int32) = 67 by decide)⟩
      · rw [if_neg c3] at h ⊢
        by_cases c4 : pk T a = 87
        · rw [if_pos c4]
          exact ⟨vlP_0, vlP_0, Or.inl ⟨by show stSets 87; unfold stSets; decide, ⟨v, hv, rfl⟩, rfl⟩, fun z => absurd z (show ¬ (87 : Int32) = 67 by decide)⟩
        · rw [if_neg c4] at h ⊢
          exact pRk_ok hT hv h
theorem pSt_ok {T : List Int32} (hT : txt T) {a : Nat} (h : (pSt T a).1 = true) : stpO (pSt T a).2.2.1 := by
  unfold pSt at h ⊢
  by_cases c : pk T a < 97 ∨ 104 < pk T a
  · rw [if_pos c] at h ⊢
    by_cases c1 : pk T a = 71
    · rw [if_pos c1] at h ⊢
      obtain ⟨x, x1, x2⟩ := pNm_ok hT (last := 57) (by omega) h
      exact ⟨vlP_0, vlP_0, Or.inr (Or.inl ⟨rfl, x, by omega, x2⟩), fun z => absurd z (show ¬ (71 : Int32) = 67 by decide)⟩
    · rw [if_neg c1] at h ⊢
      by_cases c2 : pk T a = 73
      · rw [if_pos c2] at h ⊢
        split at h
        · cases h
        · next d =>
          rw [if_neg d]
          obtain ⟨x, x1, x2⟩ := pNm_ok hT (last := 57) (by omega) h
          exact ⟨pBr_ok hT _, vlP_0, Or.inr (Or.inl ⟨rfl, x, by omega, x2⟩), fun z => absurd z (show ¬ (73 : Int32) = 67 by decide)⟩
      · rw [if_neg c2] at h ⊢
        by_cases c3 : pk T a = 83
        · rw [if_pos c3] at h ⊢
          unfold pTw at h ⊢
          split at h
          · cases h
          · next d1 =>
            rw [if_neg d1]
            split at h
            · cases h
            · next d2 =>
              rw [if_neg d2]
              split at h
              · cases h
              · next d3 =>
                rw [if_neg d3]
                split at h
                · cases h
                · next d4 =>
                  rw [if_neg d4]
                  exact ⟨pVl_ok hT _, pVl_ok hT _, Or.inr (Or.inr ⟨Or.inr (Or.inl rfl), rfl⟩), fun z => absurd z (show ¬ (83 : Int32) = 67 by decide)⟩
        · rw [if_neg c3] at h ⊢
          by_cases c5 : pk T a = 84 ∨ pk T a = 69
          · rw [if_pos c5]
            refine ⟨pBr_ok hT _, vlP_0, Or.inr (Or.inr ⟨?_, ?_⟩), fun z => ?_⟩
            · exact c5.elim Or.inl (fun z => Or.inr (Or.inr z))
            · show jmp (pk T a, _, _, _, _) = false
              unfold jmp
              rcases c5 with z | z <;> (rw [z]; rfl)
            · have z : pk T a = 67 := z
              rcases c5 with y | y <;> (rw [y] at z; exact absurd z (by decide))
          · rw [if_neg c5] at h; cases h
  · rw [if_neg c] at h ⊢
    obtain ⟨x, x1, x2⟩ := pk_local hT c
    rw [x2] at h ⊢
    split at h
    · cases h
    · next d =>
      rw [if_neg d]
      exact pRs_ok hT x1 h
/-! THE PARSER OF THE CLASS: labels, all steps -/
def lbC (h : Hp) (L : Nat → Int32) : Prop := ∀ d, d < 10 → zE h 12 d = L d
def rsS (x j : Nat) : Prop := (x = 9 ∧ j = 404) ∨ x = 11 ∨ x = 12
def rcf (h h1 : Hp) : Prop := cf rsS h h1 ∧ nz h h1
theorem rcf.rf (h : Hp) : rcf h h := ⟨cf.rf h, rfl⟩
theorem rcf.tr {h h1 h2 : Hp} (p : rcf h h1) (q : rcf h1 h2) : rcf h h2 := ⟨p.1.tr q.1, q.2.trans p.2⟩
theorem pcf.r {B : Nat} {h h1 : Hp} (p : pcf B h h1) : rcf h h1 := ⟨p.1.mono (fun x j _ z => by unfold paS at z; unfold rsS; omega), p.2⟩
theorem lbC.on {B : Nat} {h h1 : Hp} {T : List Int32} {a : Nat} {L : Nat → Int32} (l : lbC h L) (q : atC h T a) (p : pcf B h h1) : lbC h1 L := fun d hd => (p.1.E q.1.2.2.2.1.1 (by unfold paS; omega)).trans (l d hd)
theorem stQ.on {B C : Nat} {h h1 : Hp} {T : List Int32} {a : Nat} {s : StpQ} {d : Nat} (k : stQ h C s d) (q : atC h T a) (p : pcf B h h1) (hC : C + 8 ≤ B) : stQ h1 C s d := by
  have e : ∀ j, j < 8 → zE h1 11 (C + j) = zE h 11 (C + j) := fun j hj => p.1.E q.1.2.2.1.1 (by unfold paS; omega)
  obtain ⟨⟨k0, k1, k2, k3⟩, k4, k5, k6, k7⟩ := k
  have e0 := e 0 (by omega)
  rw [Nat.add_zero] at e0
  exact ⟨⟨e0.trans k0, (e 1 (by omega)).trans k1, (e 2 (by omega)).trans k2, fun z => (e 3 (by omega)).trans (k3 z)⟩, (e 4 (by omega)).trans k4, (e 5 (by omega)).trans k5, (e 6 (by omega)).trans k6, (e 7 (by omega)).trans k7⟩
section P
variable {h : Hp} {T : List Int32} {a : Nat}
theorem lo48 : ∀ x : Nat, x < 48 → nI x - (48 : Int32) < 0 := by decide
theorem c_rdLb (q : atC h T a) {L : Nat → Int32} (l : lbC h L) (n : Nat) : ∃ h1, f_X3_readLabel 9 (nI n) h = some (if (pLb T L n a).1 = true then 1 else 0, h1) ∧ atC h1 T (pLb T L n a).2.1 ∧ rcf h h1 ∧ lbC h1 (pLb T L n a).2.2 ∧ ∀ j, zE h1 11 j = zE h 11 j := by
  obtain ⟨⟨⟨o, r0, r1, r2⟩, -, ⟨o11, l11⟩, ⟨o12, l12⟩, e3, t, cc⟩, e4, ha⟩ := id q
  have pe := c_peek q
  obtain ⟨x, x1, x2, x3⟩ := pk_nat t a
  unfold pLb
  by_cases c1 : x < 48
  · rw [if_pos (Or.inl (by rw [x2]; exact (zi_lt (b := 48) (by omega) (by omega)).mpr c1))]
    have lt := lo48 x c1
    rw [x2] at pe
    refine ⟨h, ?_, q, rcf.rf h, l, fun j => rfl⟩
    simp only [f_X3_readLabel, o10, o00, bh, isO, inR, ck_true, bind_some9, Nat.reduceLeDiff, Nat.reduceEqDiff, and_self, and_true, true_and, false_and, and_false, not_false_eq_true, not_true_eq_false, or_self, or_false, false_or, if_true, if_false, reduceIte, zR_pE, zT_pE, zL_pE, zn_pE, zE_pE, zI_pE, zQ_pE, zJ_pE, zR_pI, zT_pI, zL_pI, zn_pI, zE_pI, zI_pI, zQ_pI, zJ_pI, zR_pR, zT_pR, zL_pR, zn_pR, zE_pR, zI_pR, zQ_pR, zJ_pR, zR_pJ, zT_pJ, zL_pJ, zn_pJ, zE_pJ, zI_pJ, zQ_pJ, zJ_pJ, o, pe, lt] <;> rfl
  · have sb : nI x - (48 : Int32) = nI (x - 48) := zi_sub (b := 48) (by omega)
    have g0 : ¬ nI (x - 48) < 0 := zi_neg (by omega)
    have nx : (nI (x - 48)).toNatClampNeg = x - 48 := zi_nat (by omega)
    by_cases c2 : 57 < x
    · rw [if_pos (Or.inr (by rw [x2]; exact (zi_lt (a := 57) (by omega) (by omega)).mpr c2))]
      have le : (nI (x - 48) ≤ (9 : Int32)) = False := eq_false (fun z => absurd ((zi_le (b := 9) (by omega) (by omega)).mp z) (by omega))
      rw [x2] at pe
      refine ⟨h, ?_, q, rcf.rf h, l, fun j => rfl⟩
      simp only [f_X3_readLabel, o10, o00, bh, isO, inR, ck_true, bind_some9, Nat.reduceLeDiff, Nat.reduceEqDiff, and_self, and_true, true_and, false_and, and_false, not_false_eq_true, not_true_eq_false, or_self, or_false, false_or, if_true, if_false, reduceIte, zR_pE, zT_pE, zL_pE, zn_pE, zE_pE, zI_pE, zQ_pE, zJ_pE, zR_pI, zT_pI, zL_pI, zn_pI, zE_pI, zI_pI, zQ_pI, zJ_pI, zR_pR, zT_pR, zL_pR, zn_pR, zE_pR, zI_pR, zQ_pR, zJ_pR, zR_pJ, zT_pJ, zL_pJ, zn_pJ, zE_pJ, zI_pJ, zQ_pJ, zJ_pJ, o, pe, sb, g0, le] <;> rfl
    · have hn : ¬ (pk T a < 48 ∨ 57 < pk T a) := by
        rintro (z | z)
        · rw [x2] at z; exact c1 ((zi_lt (b := 48) (by omega) (by omega)).mp z)
        · rw [x2] at z; exact c2 ((zi_lt (a := 57) (by omega) (by omega)).mp z)
      rw [if_neg hn, x2, sb, nx]
      have le : (nI (x - 48) ≤ (9 : Int32)) = True := eq_true ((zi_le (b := 9) (by omega) (by omega)).mpr (by omega))
      have lx : ¬ 10 ≤ x - 48 := by omega
      have al : a < T.length := by
        rcases x3 with z | z
        · omega
        · exact z.2
      have ez := l (x - 48) (by omega)
      rw [x2] at pe
      by_cases c3 : L (x - 48) = -1
      · rw [if_pos c3]
        have f0 : cf rsS h (pE h 12 (x - 48) (nI n)) := cf_pE (S := rsS) (Or.inr (Or.inr rfl))
        have q0 : atC (pE h 12 (x - 48) (nI n)) T a := ⟨q.1.on f0 (fun j _ _ z => by unfold rsS at z; omega) (fun j z => by unfold rsS at z; omega), q.2.1, q.2.2⟩
        have z1 : ∀ j, zE (pE h 12 (x - 48) (nI n)) 11 j = zE h 11 j := fun j => by rw [zE_pE, if_neg (by omega)]
        have z2 : lbC (pE h 12 (x - 48) (nI n)) (upf L (x - 48) (nI n)) := fun d hd => by
          rw [zE_pE]
          unfold upf
          by_cases e : d = x - 48
          · rw [if_pos ⟨rfl, e⟩, if_pos e]
          · rw [if_neg (fun z => e z.2), if_neg e]; exact l d hd
        have n0 : nz h (pE h 12 (x - 48) (nI n)) := rfl
        generalize hg : pE h 12 (x - 48) (nI n) = g at *
        have e4g := q0.2.1
        have og := q0.1.1.1
        obtain ⟨s1, s2⟩ := q0.step (B := 0) (a1 := a + 1) al
        have wE : zE (pI g 404 9 (nI (a + 1))) = zE g := rfl
        generalize hm : pI g 404 9 (nI (a + 1)) = m at *
        obtain ⟨h2, y1, y2, y3, y4⟩ := c_accept (B := 0) s1 (c := 58) (by decide)
        have om := s1.1.1.1
        refine ⟨h2, ?_, y2, rcf.tr ⟨f0, n0⟩ (s2.r.tr y3.r), fun d hd => by rw [y4, wE]; exact z2 d hd, fun j => by rw [y4, wE]; exact z1 j⟩
        have ib := isB_if (pTk T 58 (a + 1)).1
        dsimp only
        generalize (if (pTk T 58 (a + 1)).1 = true then (1 : Int32) else 0) = r9 at *
        simp only [f_X3_readLabel, o10, o00, bh, isO, inR, ck_true, bind_some9, Nat.reduceLeDiff, Nat.reduceEqDiff, and_self, and_true, true_and, false_and, and_false, not_false_eq_true, not_true_eq_false, or_self, or_false, false_or, if_true, if_false, reduceIte, zR_pE, zT_pE, zL_pE, zn_pE, zE_pE, zI_pE, zQ_pE, zJ_pE, zR_pI, zT_pI, zL_pI, zn_pI, zE_pI, zI_pI, zQ_pI, zJ_pI, zR_pR, zT_pR, zL_pR, zn_pR, zE_pR, zI_pR, zQ_pR, zJ_pR, zR_pJ, zT_pJ, zL_pJ, zn_pJ, zE_pJ, zI_pJ, zQ_pJ, zJ_pJ, o, pe, sb, g0, le, r2, o12, l12, nx, lx, ez, c3, hg, e4g, e4, zi_one, hm, y1, ib]
      · rw [if_neg c3]
        refine ⟨h, ?_, q, rcf.rf h, l, fun j => rfl⟩
        simp only [f_X3_readLabel, o10, o00, bh, isO, inR, ck_true, bind_some9, Nat.reduceLeDiff, Nat.reduceEqDiff, and_self, and_true, true_and, false_and, and_false, not_false_eq_true, not_true_eq_false, or_self, or_false, false_or, if_true, if_false, reduceIte, zR_pE, zT_pE, zL_pE, zn_pE, zE_pE, zI_pE, zQ_pE, zJ_pE, zR_pI, zT_pI, zL_pI, zn_pI, zE_pI, zI_pI, zQ_pI, zJ_pI, zR_pR, zT_pR, zL_pR, zn_pR, zE_pR, zI_pR, zQ_pR, zJ_pR, zR_pJ, zT_pJ, zL_pJ, zn_pJ, zE_pJ, zI_pJ, zQ_pJ, zJ_pJ, o, pe, sb, g0, le, r2, o12, l12, nx, lx, ez, eq_false c3] <;> rfl
theorem c_steps : ∀ (k fuel : Nat) (Q : List (StpQ × Nat)) (L : Nat → Int32) (a : Nat) (h : Hp), atC h T a → lbC h L → Q.length + k = 61 → 1 ≤ k → k < fuel → (∀ (i : Nat) (s : StpQ × Nat), Q[i]? = some s → stQ h (8 * i) s.1 s.2) → ∃ h1, f_X3_readSteps_15 fuel 9 (nI Q.length) h = some (if (pLp T k Q L a).1 = true then nI (pLp T k Q L a).2.2.1.length else -1, h1) ∧ atC h1 T (pLp T k Q L a).2.1 ∧ rcf h h1 ∧ ((pLp T k Q L a).1 = true → lbC h1 (pLp T k Q L a).2.2.2 ∧ (pLp T k Q L a).2.2.1.length ≤ 60 ∧ ∀ (i : Nat) (s : StpQ × Nat), (pLp T k Q L a).2.2.1[i]? = some s → stQ h1 (8 * i) s.1 s.2)
  | 0, fuel, Q, L, a, h, _, _, _, hk, _, _ => absurd hk (by decide)
  | k + 1, 0, Q, L, a, h, _, _, _, _, hf, _ => absurd hf (Nat.not_lt_zero _)
  | k + 1, fuel + 1, Q, L, a, h, q, l, hQ, hk, hf, hs => by
    obtain ⟨⟨⟨o, r0, r1, r2⟩, -, -, -, e3, t, cc⟩, e4, ha⟩ := id q
    have tl := t.1
    unfold pLp
    by_cases c1 : T.length ≤ a
    · rw [if_pos c1]
      have le : (nI T.length ≤ nI a) = True := eq_true ((zi_le (by omega) (by omega)).mpr c1)
      refine ⟨h, ?_, q, rcf.rf h, fun _ => ⟨l, by show Q.length ≤ 60; omega, hs⟩⟩
      by_cases c6 : (60 : Int32) ≤ nI Q.length
      · simp only [f_X3_readSteps_15, o10, o00, bh, isO, inR, ck_true, bind_some9, Nat.reduceLeDiff, Nat.reduceEqDiff, and_self, and_true, true_and, false_and, and_false, not_false_eq_true, not_true_eq_false, or_self, or_false, false_or, if_true, if_false, reduceIte, zR_pE, zT_pE, zL_pE, zn_pE, zE_pE, zI_pE, zQ_pE, zJ_pE, zR_pI, zT_pI, zL_pI, zn_pI, zE_pI, zI_pI, zQ_pI, zJ_pI, zR_pR, zT_pR, zL_pR, zn_pR, zE_pR, zI_pR, zQ_pR, zJ_pR, zR_pJ, zT_pJ, zL_pJ, zn_pJ, zE_pJ, zI_pJ, zQ_pJ, zJ_pJ, c6, o, e3, e4, le] <;> rfl
      · simp only [f_X3_readSteps_15, o10, o00, bh, isO, inR, ck_true, bind_some9, Nat.reduceLeDiff, Nat.reduceEqDiff, and_self, and_true, true_and, false_and, and_false, not_false_eq_true, not_true_eq_false, or_self, or_false, false_or, if_true, if_false, reduceIte, zR_pE, zT_pE, zL_pE, zn_pE, zE_pE, zI_pE, zQ_pE, zJ_pE, zR_pI, zT_pI, zL_pI, zn_pI, zE_pI, zI_pI, zQ_pI, zJ_pI, zR_pR, zT_pR, zL_pR, zn_pR, zE_pR, zI_pR, zQ_pR, zJ_pR, zR_pJ, zT_pJ, zL_pJ, zn_pJ, zE_pJ, zI_pJ, zQ_pJ, zJ_pJ, c6, o, e3, e4, le] <;> rfl
    · rw [if_neg c1]
      have le : (nI T.length ≤ nI a) = False := eq_false (zi_le0 (by omega) (by omega) c1)
      by_cases c2 : Q.length = 60
      · rw [if_pos c2]
        have c6 : (60 : Int32) ≤ nI Q.length := by rw [c2]; decide
        refine ⟨h, ?_, q, rcf.rf h, fun z => by cases z⟩
        simp only [f_X3_readSteps_15, o10, o00, bh, isO, inR, ck_true, bind_some9, Nat.reduceLeDiff, Nat.reduceEqDiff, and_self, and_true, true_and, false_and, and_false, not_false_eq_true, not_true_eq_false, or_self, or_false, false_or, if_true, if_false, reduceIte, zR_pE, zT_pE, zL_pE, zn_pE, zE_pE, zI_pE, zQ_pE, zJ_pE, zR_pI, zT_pI, zL_pI, zn_pI, zE_pI, zI_pI, zQ_pI, zJ_pI, zR_pR, zT_pR, zL_pR, zn_pR, zE_pR, zI_pR, zQ_pR, zJ_pR, zR_pJ, zT_pJ, zL_pJ, zn_pJ, zE_pJ, zI_pJ, zQ_pJ, zJ_pJ, c6, o, e3, e4, le] <;> rfl
      · rw [if_neg c2]
        have c6 : ¬ (60 : Int32) ≤ nI Q.length := zi_le0 (a := 60) (by omega) (by omega) (by omega)
        have b8 : nI Q.length * (8 : Int32) = nI (8 * Q.length) := by rw [show (8 : Int32) = nI 8 from rfl, zi_mul, Nat.mul_comm]
        have k10 : ((1 : Int32) = 0) = False := eq_false (by decide)
        obtain ⟨h1, x1, x2, x3, x4, x5⟩ := c_rdLb q l Q.length
        have o1 := x2.1.1.1
        generalize hlb : pLb T L Q.length a = lb at *
        obtain ⟨lb1, lb2, lb3⟩ := lb
        cases lb1 with
        | false =>
          rw [if_pos rfl]
          have x1 : f_X3_readLabel 9 (nI Q.length) h = some (0, h1) := x1
          refine ⟨h1, ?_, x2, x3, fun z => by cases z⟩
          simp only [f_X3_readSteps_15, o10, o00, bh, isO, inR, ck_true, bind_some9, Nat.reduceLeDiff, Nat.reduceEqDiff, and_self, and_true, true_and, false_and, and_false, not_false_eq_true, not_true_eq_false, or_self, or_false, false_or, if_true, if_false, reduceIte, zR_pE, zT_pE, zL_pE, zn_pE, zE_pE, zI_pE, zQ_pE, zJ_pE, zR_pI, zT_pI, zL_pI, zn_pI, zE_pI, zI_pI, zQ_pI, zJ_pI, zR_pR, zT_pR, zL_pR, zn_pR, zE_pR, zI_pR, zQ_pR, zJ_pR, zR_pJ, zT_pJ, zL_pJ, zn_pJ, zE_pJ, zI_pJ, zQ_pJ, zJ_pJ, c6, o, e3, e4, le, x1] <;> rfl
        | true =>
          rw [if_neg (show ¬ true = false from fun z => by cases z)]
          have x1 : f_X3_readLabel 9 (nI Q.length) h = some (1, h1) := x1
          have x2 : atC h1 T lb2 := x2
          have x4 : lbC h1 lb3 := x4
          dsimp only
          obtain ⟨h2, y1, y2, y3, y4⟩ := c_rdSt (B := 8 * Q.length) (by omega) x2
          have o2 := y2.1.1.1
          generalize hst : pSt T lb2 = st at *
          obtain ⟨st1, st2, st3, st4⟩ := st
          cases st1 with
          | false =>
            rw [if_pos rfl]
            have y1 : f_X3_readStep 9 (nI (8 * Q.length)) h1 = some (0, h2) := y1
            refine ⟨h2, ?_, y2, x3.tr y3.r, fun z => by cases z⟩
            simp only [f_X3_readSteps_15, o10, o00, bh, isO, inR, ck_true, bind_some9, Nat.reduceLeDiff, Nat.reduceEqDiff, and_self, and_true, true_and, false_and, and_false, not_false_eq_true, not_true_eq_false, or_self, or_false, false_or, if_true, if_false, reduceIte, zR_pE, zT_pE, zL_pE, zn_pE, zE_pE, zI_pE, zQ_pE, zJ_pE, zR_pI, zT_pI, zL_pI, zn_pI, zE_pI, zI_pI, zQ_pI, zJ_pI, zR_pR, zT_pR, zL_pR, zn_pR, zE_pR, zI_pR, zQ_pR, zJ_pR, zR_pJ, zT_pJ, zL_pJ, zn_pJ, zE_pJ, zI_pJ, zQ_pJ, zJ_pJ, c6, o, e3, e4, le, x1, k10, o1, b8, y1] <;> rfl
          | true =>
            rw [if_neg (show ¬ true = false from fun z => by cases z)]
            have y1 : f_X3_readStep 9 (nI (8 * Q.length)) h1 = some (1, h2) := y1
            have y2 : atC h2 T st2 := y2
            have y4 : stQ h2 (8 * Q.length) st3 st4 := y4 rfl
            dsimp only
            obtain ⟨h3, z1, z2, z3, z4⟩ := c_accept (B := 8 * Q.length) y2 (c := 59) (by decide)
            generalize hac : pTk T 59 st2 = ac at *
            obtain ⟨ac1, ac2⟩ := ac
            cases ac1 with
            | false =>
              rw [if_pos rfl]
              have z1 : f_X3_accept 9 59 h2 = some (0, h3) := z1
              refine ⟨h3, ?_, z2, (x3.tr y3.r).tr z3.r, fun z => by cases z⟩
              simp only [f_X3_readSteps_15, o10, o00, bh, isO, inR, ck_true, bind_some9, Nat.reduceLeDiff, Nat.reduceEqDiff, and_self, and_true, true_and, false_and, and_false, not_false_eq_true, not_true_eq_false, or_self, or_false, false_or, if_true, if_false, reduceIte, zR_pE, zT_pE, zL_pE, zn_pE, zE_pE, zI_pE, zQ_pE, zJ_pE, zR_pI, zT_pI, zL_pI, zn_pI, zE_pI, zI_pI, zQ_pI, zJ_pI, zR_pR, zT_pR, zL_pR, zn_pR, zE_pR, zI_pR, zQ_pR, zJ_pR, zR_pJ, zT_pJ, zL_pJ, zn_pJ, zE_pJ, zI_pJ, zQ_pJ, zJ_pJ, c6, o, e3, e4, le, x1, k10, o1, b8, y1, o2, z1] <;> rfl
            | true =>
              rw [if_neg (show ¬ true = false from fun z => by cases z)]
              have z1 : f_X3_accept 9 59 h2 = some (1, h3) := z1
              have z2 : atC h3 T ac2 := z2
              dsimp only
              have old : ∀ (i : Nat) (s : StpQ × Nat), Q[i]? = some s → stQ h3 (8 * i) s.1 s.2 := fun i s hi => by
                have iL := (List.getElem?_eq_some_iff.mp hi).1
                have k0 := hs i s hi
                have k1 : stQ h1 (8 * i) s.1 s.2 := by
                  unfold stQ at k0 ⊢
                  rw [x5, x5, x5, x5, x5, x5, x5, x5]
                  exact k0
                exact (k1.on x2 y3 (by omega)).on y2 z3 (by omega)
              have new : stQ h3 (8 * Q.length) st3 st4 := by
                unfold stQ at y4 ⊢
                rw [z4]
                exact y4
              obtain ⟨h4, w1, w2, w3, w4⟩ := c_steps k fuel (Q ++ [(st3, st4)]) lb3 ac2 h3 z2 ((x4.on x2 y3).on y2 z3) (by rw [List.length_append, List.length_singleton]; omega) (by omega) (by omega) (fun i s hi => by
                by_cases e : i < Q.length
                · rw [List.getElem?_append_left e] at hi
                  exact old i s hi
                · have e2 : i = Q.length := by
                    have := (List.getElem?_eq_some_iff.mp hi).1
                    rw [List.length_append, List.length_singleton] at this
                    omega
                  rw [e2, List.getElem?_append_right (Nat.le_refl _), Nat.sub_self] at hi
                  have hi : some (st3, st4) = some s := hi
                  cases hi
                  rw [e2]
                  exact new)
              rw [List.length_append, List.length_singleton] at w1
              refine ⟨h4, ?_, w2, ((x3.tr y3.r).tr z3.r).tr w3, w4⟩
              rw [← w1]
              simp only [f_X3_readSteps_15, o10, o00, bh, isO, inR, ck_true, bind_some9, Nat.reduceLeDiff, Nat.reduceEqDiff, and_self, and_true, true_and, false_and, and_false, not_false_eq_true, not_true_eq_false, or_self, or_false, false_or, if_true, if_false, reduceIte, zR_pE, zT_pE, zL_pE, zn_pE, zE_pE, zI_pE, zQ_pE, zJ_pE, zR_pI, zT_pI, zL_pI, zn_pI, zE_pI, zI_pI, zQ_pI, zJ_pI, zR_pR, zT_pR, zL_pR, zn_pR, zE_pR, zI_pR, zQ_pR, zJ_pR, zR_pJ, zT_pJ, zL_pJ, zn_pJ, zE_pJ, zI_pJ, zQ_pJ, zJ_pJ, c6, o, e3, e4, le, x1, k10, o1, b8, y1, o2, z1, zi_one]
end P
/-! THE PARSER OF THE CLASS: labels are set in -/
theorem lnk_no (L : Nat → Int32) {q : StpQ} (h : jmp q = false) : lnk L q = q := by
  unfold lnk
  rw [if_neg (by rw [h]; exact fun z => by cases z)]
theorem jmp_iff (q : StpQ) : jmp q = true ↔ q.1 = 73 ∨ q.1 = 71 := by
  unfold jmp
  rw [Bool.or_eq_true, decide_eq_true_iff, decide_eq_true_iff]
theorem jmp_lnk (L : Nat → Int32) (q : StpQ) : jmp (lnk L q) = jmp q := by
  unfold lnk
  split
  · rfl
  · rfl
section P
variable {T : List Int32} {a : Nat}
theorem c_link {Q : List (StpQ × Nat)} {L : Nat → Int32} (hN : Q.length ≤ 60) (hx : ∀ s ∈ Q, jmp s.1 = true → ∃ x, x < 10 ∧ s.1.2.2.1 = nI x) : ∀ (m i fuel : Nat) (h : Hp), i + m = Q.length → m < fuel → atC h T a → lbC h L → (∀ (j : Nat) (s : StpQ × Nat), Q[j]? = some s → stQ h (8 * j) (if j < i then lnk L s.1 else s.1) s.2) → ∃ h1, f_X3_linkLabels_2 fuel 9 (nI Q.length) (nI (8 * i)) h = some (match pLk L (Q.drop i) with | some d => nI d | none => -1, h1) ∧ atC h1 T a ∧ rcf h h1 ∧ (pLk L (Q.drop i) = none → ∀ (j : Nat) (s : StpQ × Nat), Q[j]? = some s → stQ h1 (8 * j) (lnk L s.1) s.2)
  | m, i, 0, h, _, hf, _, _, _ => absurd hf (Nat.not_lt_zero _)
  | 0, i, fuel + 1, h, hi, hf, q, l, hs => by
    have b8 : nI Q.length * (8 : Int32) = nI (8 * Q.length) := by rw [show (8 : Int32) = nI 8 from rfl, zi_mul, Nat.mul_comm]
    have c : nI (8 * Q.length) ≤ nI (8 * i) := (zi_le (by omega) (by omega)).mpr (by omega)
    have e : Q.drop i = [] := List.drop_of_length_le (by omega)
    rw [e]
    refine ⟨h, ?_, q, rcf.rf h, fun _ j s hj => ?_⟩
    · simp only [f_X3_linkLabels_2, o10, o00, bh, isO, inR, ck_true, bind_some9, Nat.reduceLeDiff, Nat.reduceEqDiff, and_self, and_true, true_and, false_and, and_false, not_false_eq_true, not_true_eq_false, or_self, or_false, false_or, if_true, if_false, reduceIte, zR_pE, zT_pE, zL_pE, zn_pE, zE_pE, zI_pE, zQ_pE, zJ_pE, zR_pI, zT_pI, zL_pI, zn_pI, zE_pI, zI_pI, zQ_pI, zJ_pI, zR_pR, zT_pR, zL_pR, zn_pR, zE_pR, zI_pR, zQ_pR, zJ_pR, zR_pJ, zT_pJ, zL_pJ, zn_pJ, zE_pJ, zI_pJ, zQ_pJ, zJ_pJ, b8, c] <;> rfl
    · have jL := (List.getElem?_eq_some_iff.mp hj).1
      have := hs j s hj
      rw [if_pos (by omega)] at this
      exact this
  | m + 1, i, fuel + 1, h, hi, hf, q, l, hs => by
    have iL : i < Q.length := by omega
    have b8 : nI Q.length * (8 : Int32) = nI (8 * Q.length) := by rw [show (8 : Int32) = nI 8 from rfl, zi_mul, Nat.mul_comm]
    have c : (nI (8 * Q.length) ≤ nI (8 * i)) = False := eq_false (zi_le0 (by omega) (by omega) (by omega))
    have hg : Q[i]? = some (Q[i]'iL) := List.getElem?_eq_getElem iL
    have ed : Q.drop i = Q[i]'iL :: Q.drop (i + 1) := List.drop_eq_getElem_cons iL
    have hxi := hx _ (List.getElem_mem iL)
    have hsi := hs i _ hg
    rw [if_neg (Nat.lt_irrefl i)] at hsi
    rw [ed]
    generalize Q[i]'iL = s at *
    obtain ⟨⟨⟨o, r0, r1, r2⟩, -, ⟨o11, l11⟩, ⟨o12, l12⟩, e3, t, cc⟩, e4, ha⟩ := id q
    obtain ⟨⟨k0, k1, k2, k3⟩, k4, k5, k6, k7⟩ := id hsi
    have b0 : nI (8 * i) + (0 : Int32) = nI (8 * i) := Int32.add_zero _
    have b1 : nI (8 * i) + (1 : Int32) = nI (8 * i + 1) := zi_add _ 1
    have b2 : nI (8 * i) + (2 : Int32) = nI (8 * i + 2) := zi_add _ 2
    have b3 : nI (8 * i) + (3 : Int32) = nI (8 * i + 3) := zi_add _ 3
    have b9 : nI (8 * i) + (8 : Int32) = nI (8 * (i + 1)) := by rw [show (8 : Int32) = nI 8 from rfl, zi_add]; congr 1
    have nt : ∀ j, j < 8 → (nI (8 * i + j)).toNatClampNeg = 8 * i + j := fun j hj => zi_nat (by omega)
    have gt : ∀ j, j < 8 → ¬ nI (8 * i + j) < 0 := fun j hj => zi_neg (by omega)
    have t0 : (nI (8 * i)).toNatClampNeg = 8 * i := zi_nat (by omega)
    have g0 : ¬ nI (8 * i) < 0 := zi_neg (by omega)
    have l0 : ¬ 480 ≤ 8 * i := by omega
    have t1 := nt 1 (by omega)
    have t2 := nt 2 (by omega)
    have t3 := nt 3 (by omega)
    have g1 := gt 1 (by omega)
    have g2 := gt 2 (by omega)
    have g3 := gt 3 (by omega)
    have l1 : ¬ 480 ≤ 8 * i + 1 := by omega
    have l2 : ¬ 480 ≤ 8 * i + 2 := by omega
    have l3 : ¬ 480 ≤ 8 * i + 3 := by omega
    cases hj : jmp s.1 with
    | false =>
      have n73 : (s.1.1 = 73) = False := eq_false (fun z => by rw [(jmp_iff s.1).mpr (Or.inl z)] at hj; cases hj)
      have n71 : (s.1.1 = 71) = False := eq_false (fun z => by rw [(jmp_iff s.1).mpr (Or.inr z)] at hj; cases hj)
      obtain ⟨h1, y1, y2, y3, y4⟩ := c_link hN hx m (i + 1) fuel h (by omega) (by omega) q l (fun j s2 hj2 => by
        have := hs j s2 hj2
        by_cases e : j < i
        · rw [if_pos e] at this; rw [if_pos (by omega)]; exact this
        · rw [if_neg e] at this
          by_cases e2 : j = i
          · rw [if_pos (by omega)]
            rw [e2, hg] at hj2
            cases hj2
            rw [lnk_no L hj]
            exact this
          · rw [if_neg (by omega)]; exact this)
      have ep : pLk L (s :: Q.drop (i + 1)) = pLk L (Q.drop (i + 1)) := by
        unfold pLk
        rw [List.find?_cons, hj, Bool.false_and]
      rw [ep]
      refine ⟨h1, ?_, y2, y3, y4⟩
      rw [← y1]
      simp only [f_X3_linkLabels_2, f_X3_linkLabels_73, o10, o00, bh, isO, inR, ck_true, bind_some9, Nat.reduceLeDiff, Nat.reduceEqDiff, and_self, and_true, true_and, false_and, and_false, not_false_eq_true, not_true_eq_false, or_self, or_false, false_or, if_true, if_false, reduceIte, zR_pE, zT_pE, zL_pE, zn_pE, zE_pE, zI_pE, zQ_pE, zJ_pE, zR_pI, zT_pI, zL_pI, zn_pI, zE_pI, zI_pI, zQ_pI, zJ_pI, zR_pR, zT_pR, zL_pR, zn_pR, zE_pR, zI_pR, zQ_pR, zJ_pR, zR_pJ, zT_pJ, zL_pJ, zn_pJ, zE_pJ, zI_pJ, zQ_pJ, zJ_pJ, b8, c, o, r1, o11, l11, b0, t0, g0, l0, k0, n73, n71, b9]
    | true =>
      obtain ⟨x, x1, x2⟩ := hxi hj
      have nx : (nI x).toNatClampNeg = x := zi_nat (by omega)
      have gx : ¬ nI x < 0 := zi_neg (by omega)
      have lx : ¬ 10 ≤ x := by omega
      have el := l x x1
      rw [x2] at k2
      have e36 : f_X3_linkLabels_2 (fuel + 1) 9 (nI Q.length) (nI (8 * i)) h = f_X3_linkLabels_36 (f_X3_linkLabels_2 fuel) 9 (nI Q.length) (nI (8 * i)) h := by
        by_cases z : s.1.1 = 73
        · simp only [f_X3_linkLabels_2, o10, o00, bh, isO, inR, ck_true, bind_some9, Nat.reduceLeDiff, Nat.reduceEqDiff, and_self, and_true, true_and, false_and, and_false, not_false_eq_true, not_true_eq_false, or_self, or_false, false_or, if_true, if_false, reduceIte, zR_pE, zT_pE, zL_pE, zn_pE, zE_pE, zI_pE, zQ_pE, zJ_pE, zR_pI, zT_pI, zL_pI, zn_pI, zE_pI, zI_pI, zQ_pI, zJ_pI, zR_pR, zT_pR, zL_pR, zn_pR, zE_pR, zI_pR, zQ_pR, zJ_pR, zR_pJ, zT_pJ, zL_pJ, zn_pJ, zE_pJ, zI_pJ, zQ_pJ, zJ_pJ, b8, c, o, r1, o11, l11, b0, t0, g0, l0, k0, eq_true z]
        · have z2 : s.1.1 = 71 := ((jmp_iff s.1).mp hj).resolve_left z
          simp only [f_X3_linkLabels_2, o10, o00, bh, isO, inR, ck_true, bind_some9, Nat.reduceLeDiff, Nat.reduceEqDiff, and_self, and_true, true_and, false_and, and_false, not_false_eq_true, not_true_eq_false, or_self, or_false, false_or, if_true, if_false, reduceIte, zR_pE, zT_pE, zL_pE, zn_pE, zE_pE, zI_pE, zQ_pE, zJ_pE, zR_pI, zT_pI, zL_pI, zn_pI, zE_pI, zI_pI, zQ_pI, zJ_pI, zR_pR, zT_pR, zL_pR, zn_pR, zE_pR, zI_pR, zQ_pR, zJ_pR, zR_pJ, zT_pJ, zL_pJ, zn_pJ, zE_pJ, zI_pJ, zQ_pJ, zJ_pJ, b8, c, o, r1, o11, l11, b0, t0, g0, l0, k0, eq_false z, eq_true z2]
      rw [e36]
      by_cases cl : L x = -1
      · have ep : pLk L (s :: Q.drop (i + 1)) = some s.2 := by
          unfold pLk
          rw [List.find?_cons, hj, Bool.true_and, x2, nx, decide_eq_true cl]
          rfl
        rw [ep]
        refine ⟨h, ?_, q, rcf.rf h, fun z => by cases z⟩
        have k3 := k3 hj
        rw [cl] at el
        unfold f_X3_linkLabels_36
        rw [ck_yes o, r1, ck_yes o11, b2, l11, ck_yes (zi_in (by omega : 8 * i + 2 < 480) (by omega)), r2, ck_yes o12, t2, k2, l12, ck_yes (zi_in (by omega : x < 10) (by omega)), nx]
        unfold bh
        dsimp only
        rw [el, if_pos rfl, b3, ck_yes (zi_in (by omega : 8 * i + 3 < 480) (by omega)), t3, k3]
      · have ep : pLk L (s :: Q.drop (i + 1)) = pLk L (Q.drop (i + 1)) := by
          unfold pLk
          rw [List.find?_cons, hj, Bool.true_and, x2, nx, decide_eq_false cl]
        rw [ep]
        obtain ⟨s1, s2⟩ := q.code (B := 8 * i) (j := 8 * i + 1) (by omega) (L x)
        have v0 : zE (pE h 11 (8 * i + 1) (L x)) 11 (8 * i + 1) = L x := by rw [zE_pE, if_pos ⟨rfl, rfl⟩]
        have v1 : ∀ j, j ≠ 8 * i + 1 → zE (pE h 11 (8 * i + 1) (L x)) 11 j = zE h 11 j := fun j hj => by rw [zE_pE, if_neg (fun z => hj z.2)]
        have e36b : f_X3_linkLabels_36 (f_X3_linkLabels_2 fuel) 9 (nI Q.length) (nI (8 * i)) h = f_X3_linkLabels_2 fuel 9 (nI Q.length) (nI (8 * (i + 1))) (pE h 11 (8 * i + 1) (L x)) := by
          unfold f_X3_linkLabels_36
          rw [ck_yes o, r1, ck_yes o11, b2, l11, ck_yes (zi_in (by omega : 8 * i + 2 < 480) (by omega)), r2, ck_yes o12, t2, k2, l12, ck_yes (zi_in (by omega : x < 10) (by omega)), nx]
          unfold bh
          dsimp only
          rw [el, if_neg cl, b1, ck_yes (zi_in (by omega : 8 * i + 1 < 480) (by omega)), t1]
          unfold f_X3_linkLabels_73 bh
          dsimp only
          rw [b9]
        rw [e36b]
        generalize hgg : pE h 11 (8 * i + 1) (L x) = g at *
        obtain ⟨h1, y1, y2, y3, y4⟩ := c_link hN hx m (i + 1) fuel g (by omega) (by omega) s1 (l.on q s2) (fun j s9 hj9 => by
          have := hs j s9 hj9
          have jL := (List.getElem?_eq_some_iff.mp hj9).1
          by_cases e : j < i
          · rw [if_pos e] at this
            rw [if_pos (by omega)]
            exact this.on q s2 (by omega)
          · rw [if_neg e] at this
            by_cases e2 : j = i
            · rw [if_pos (by omega)]
              rw [e2, hg] at hj9
              cases hj9
              rw [e2]
              have en : lnk L s.1 = (s.1.1, L x, s.1.2.2) := by
                unfold lnk
                rw [if_pos hj, x2, nx]
              have u : ∀ j, j < 8 → j ≠ 1 → zE g 11 (8 * i + j) = zE h 11 (8 * i + j) := fun j _ _ => v1 _ (by omega)
              have u0 := u 0 (by omega) (by omega)
              rw [Nat.add_zero] at u0
              rw [en]
              exact ⟨⟨u0.trans k0, v0, (u 2 (by omega) (by omega)).trans (k2.trans x2.symm), fun _ => (u 3 (by omega) (by omega)).trans (k3 hj)⟩, (u 4 (by omega) (by omega)).trans k4, (u 5 (by omega) (by omega)).trans k5, (u 6 (by omega) (by omega)).trans k6, (u 7 (by omega) (by omega)).trans k7⟩
            · rw [if_neg (by omega)]
              obtain ⟨⟨p0, p1, p2, p3⟩, p4, p5, p6, p7⟩ := this
              have u : ∀ y, y < 8 → zE g 11 (8 * j + y) = zE h 11 (8 * j + y) := fun y _ => v1 _ (by omega)
              have u0 := u 0 (by omega)
              rw [Nat.add_zero] at u0
              exact ⟨⟨u0.trans p0, (u 1 (by omega)).trans p1, (u 2 (by omega)).trans p2, fun z => (u 3 (by omega)).trans (p3 z)⟩, (u 4 (by omega)).trans p4, (u 5 (by omega)).trans p5, (u 6 (by omega)).trans p6, (u 7 (by omega)).trans p7⟩)
        exact ⟨h1, y1, y2, s2.r.tr y3, y4⟩
end P
