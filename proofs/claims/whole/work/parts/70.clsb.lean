/-! THE CLASS'S HISTORIES -/
def nz (h h1 : Hp) : Prop := h1.1 = h.1
theorem nz.tr {h h1 h2 : Hp} (p : nz h h1) (q : nz h1 h2) : nz h h2 := Eq.trans q p
def kOK (es : List Evt) : Prop := ∀ e ∈ es, e.1 < 1000
theorem ev_get {es : List Evt} {k : Nat} (h : k < es.length) : es[k]? = some (evAt es k) := by
  unfold evAt
  rw [List.getD_eq_getElem?_getD, List.getElem?_eq_getElem h]
  rfl
theorem ev_mem {es : List Evt} {k : Nat} (h : k < es.length) : evAt es k ∈ es := List.mem_of_getElem? (ev_get h)
theorem hsD.at {h : Hp} {w : Nat} {es : List Evt} (q : hsD h w es) {k : Nat} (hk : k < es.length) : zE h (w + 3) k = nI (evAt es k).1 ∧ zE h (w + 4) k = (evAt es k).2.1 ∧ zE h (w + 5) k = (evAt es k).2.2.1 ∧ zE h (w + 6) k = (evAt es k).2.2.2 := q.2 k _ (ev_get hk)
def hsX (w a j : Nat) : Prop := (a = w + 2 ∧ j = 204) ∨ (w + 3 ≤ a ∧ a ≤ w + 6)
section Hist
variable {h : Hp} {w num : Nat} {es : List Evt}
theorem c_add (t : wfT h w num) (q : hsD h w es) (hl : es.length < 60) (e : Evt) : ∃ h1, f_X1_add (w + 2) (nI e.1) e.2.1 e.2.2.1 e.2.2.2 h = some h1 ∧ hsD h1 w (es ++ [e]) ∧ cf (hsX w) h h1 ∧ nz h h1 := by
  obtain ⟨-, -, ⟨c1, c2, c3, c4, c5⟩, ⟨d1, d2, d3, d4⟩, ⟨e1, e2, e3, e4⟩, -⟩ := t
  obtain ⟨⟨q1, q2⟩, q3⟩ := q
  have c6 : ¬ (60 : Int32) ≤ nI es.length := zi_le0 (a := 60) (by omega) (by omega) (by omega)
  have nl : (nI es.length).toNatClampNeg = es.length := zi_nat (by omega)
  have gl : ¬ nI es.length < 0 := zi_neg (by omega)
  have ll : ¬ 60 ≤ es.length := by omega
  refine ⟨pI (pE (pE (pE (pE h (w + 3) es.length (nI e.1)) (w + 4) es.length e.2.1) (w + 5) es.length e.2.2.1) (w + 6) es.length e.2.2.2) 204 (w + 2) (nI (es.length + 1)), ?_, ⟨⟨?_, by rw [List.length_append, List.length_singleton]; omega⟩, fun k x hk => ?_⟩, ?_, rfl⟩
  · simp only [f_X1_add, o10, o00, bh, isO, inR, ck_true, bind_some9, Nat.reduceLeDiff, Nat.reduceEqDiff, and_self, and_true, true_and, false_and, and_false, not_false_eq_true, not_true_eq_false, or_self, or_false, false_or, if_true, if_false, reduceIte, zR_pE, zT_pE, zL_pE, zn_pE, zE_pE, zI_pE, zQ_pE, zJ_pE, zR_pI, zT_pI, zL_pI, zn_pI, zE_pI, zI_pI, zQ_pI, zJ_pI, zR_pR, zT_pR, zL_pR, zn_pR, zE_pR, zI_pR, zQ_pR, zJ_pR, zR_pJ, zT_pJ, zL_pJ, zn_pJ, zE_pJ, zI_pJ, zQ_pJ, zJ_pJ, c1, c2, c3, c4, c5, d1, d2, d3, d4, e1, e2, e3, e4, q1, c6, nl, gl, ll, zi_one]
  · rw [zI_pI, if_pos ⟨rfl, rfl⟩, List.length_append, List.length_singleton]
  · have hkl := (List.getElem?_eq_some_iff.mp hk).1
    rw [List.length_append, List.length_singleton] at hkl
    simp only [zE_pI, zE_pE]
    by_cases ck9 : k = es.length
    · rw [ck9, List.getElem?_concat_length] at hk
      have hk := Option.some.inj hk
      rw [← hk, ck9]
      refine ⟨?_, ?_, ?_, ?_⟩
      · rw [if_neg (by omega), if_neg (by omega), if_neg (by omega), if_pos ⟨trivial, rfl⟩]
      · rw [if_neg (by omega), if_neg (by omega), if_pos ⟨trivial, rfl⟩]
      · rw [if_neg (by omega), if_pos ⟨trivial, rfl⟩]
      · rw [if_pos ⟨trivial, rfl⟩]
    · rw [List.getElem?_append_left (by omega)] at hk
      obtain ⟨x1, x2, x3, x4⟩ := q3 k x hk
      refine ⟨?_, ?_, ?_, ?_⟩
      · rw [if_neg (by omega), if_neg (by omega), if_neg (by omega), if_neg (by omega)]; exact x1
      · rw [if_neg (by omega), if_neg (by omega), if_neg (by omega), if_neg (by omega)]; exact x2
      · rw [if_neg (by omega), if_neg (by omega), if_neg (by omega), if_neg (by omega)]; exact x3
      · rw [if_neg (by omega), if_neg (by omega), if_neg (by omega), if_neg (by omega)]; exact x4
  · exact ((((cf_pE (Or.inr (by omega))).tr (cf_pE (Or.inr (by omega)))).tr (cf_pE (Or.inr (by omega)))).tr (cf_pE (Or.inr (by omega)))).tr (cf_pI (Or.inl ⟨rfl, rfl⟩))
theorem c_count_go (t : wfT h w num) (q : hsD h w es) (ko : kOK es) {k e : Nat} (hk : k < 1000) (he : e ≤ es.length) : ∀ (m j c fuel : Nat), j + m = e → m < fuel → f_X1_count_5 fuel (w + 2) (nI k) (nI e) (nI c) (nI j) h = some (nI (c + cntK k ((es.take e).drop j)), h)
  | m, j, c, 0, _, hf => absurd hf (Nat.not_lt_zero _)
  | 0, j, c, fuel + 1, hj, hf => by
    have hes := q.1.2
    have c1 : nI e ≤ nI j := (zi_le (by omega) (by omega)).mpr (by omega)
    rw [List.drop_of_length_le (by rw [List.length_take]; omega)]
    unfold f_X1_count_5
    rw [if_pos c1]
    rfl
  | m + 1, j, c, fuel + 1, hj, hf => by
    have hes := q.1.2
    obtain ⟨-, -, ⟨c1, c2, c3, c4, c5⟩, ⟨d1, d2, d3, d4⟩, ⟨e1, e2, e3, e4⟩, -⟩ := id t
    have q1 := q.1.1
    have g1 : ¬ nI e ≤ nI j := zi_le0 (by omega) (by omega) (by omega)
    have g2 : ¬ nI es.length ≤ nI j := zi_le0 (by omega) (by omega) (by omega)
    have nj : (nI j).toNatClampNeg = j := zi_nat (by omega)
    have gj : ¬ nI j < 0 := zi_neg (by omega)
    have lj : ¬ 60 ≤ j := by omega
    have ev := (q.at (by omega : j < es.length)).1
    have kb := ko _ (ev_mem (by omega : j < es.length))
    have ed := take_drop_cons (es := es) (by omega : j < e) he
    have qk : nI (evAt es j).1 = nI k ↔ (evAt es j).1 = k := zi_eq (by omega) (by omega)
    have hcn : cntK k ((es.take e).drop j) = (if (evAt es j).1 = k then 1 else 0) + cntK k ((es.take e).drop (j + 1)) := by
      rw [ed]
      unfold cntK
      rw [List.filter_cons]
      by_cases c6 : (evAt es j).1 = k
      · rw [if_pos (decide_eq_true c6), if_pos c6, List.length_cons]; omega
      · rw [if_neg (by simp [c6]), if_neg c6]; omega
    have ih := c_count_go t q ko hk he m (j + 1) (c + if (evAt es j).1 = k then 1 else 0) fuel (by omega) (by omega)
    rw [hcn]
    by_cases c6 : (evAt es j).1 = k
    · rw [if_pos c6] at ih ⊢
      have d := eq_true (qk.mpr c6)
      simp only [f_X1_count_5, f_X1_count_37, o10, o00, bh, isO, inR, ck_true, bind_some9, Nat.reduceLeDiff, Nat.reduceEqDiff, and_self, and_true, true_and, false_and, and_false, not_false_eq_true, not_true_eq_false, or_self, or_false, false_or, if_true, if_false, reduceIte, zR_pE, zT_pE, zL_pE, zn_pE, zE_pE, zI_pE, zQ_pE, zJ_pE, zR_pI, zT_pI, zL_pI, zn_pI, zE_pI, zI_pI, zQ_pI, zJ_pI, zR_pR, zT_pR, zL_pR, zn_pR, zE_pR, zI_pR, zQ_pR, zJ_pR, zR_pJ, zT_pJ, zL_pJ, zn_pJ, zE_pJ, zI_pJ, zQ_pJ, zJ_pJ, g1, c1, q1, g2, c2, d1, e1, nj, gj, lj, ev, d, zi_one, ih, Nat.add_assoc]
    · rw [if_neg c6, Nat.add_zero] at ih
      rw [if_neg c6]
      have d := eq_false (fun z => c6 (qk.mp z))
      have z0 : nI c + (0 : Int32) = nI c := zi_add c 0
      simp only [f_X1_count_5, f_X1_count_37, o10, o00, bh, isO, inR, ck_true, bind_some9, Nat.reduceLeDiff, Nat.reduceEqDiff, and_self, and_true, true_and, false_and, and_false, not_false_eq_true, not_true_eq_false, or_self, or_false, false_or, if_true, if_false, reduceIte, zR_pE, zT_pE, zL_pE, zn_pE, zE_pE, zI_pE, zQ_pE, zJ_pE, zR_pI, zT_pI, zL_pI, zn_pI, zE_pI, zI_pI, zQ_pI, zJ_pI, zR_pR, zT_pR, zL_pR, zn_pR, zE_pR, zI_pR, zQ_pR, zJ_pR, zR_pJ, zT_pJ, zL_pJ, zn_pJ, zE_pJ, zI_pJ, zQ_pJ, zJ_pJ, g1, c1, q1, g2, c2, d1, e1, nj, gj, lj, ev, d, zi_one, z0, Nat.zero_add]
      exact ih
theorem c_count (t : wfT h w num) (q : hsD h w es) (ko : kOK es) {k e : Nat} (hk : k < 1000) (he : e ≤ es.length) : f_X1_count (w + 2) (nI k) (nI e) h = some (nI (cntK k (es.take e)), h) := by
  have hes := q.1.2
  have := c_count_go t q ko hk he e 0 0 fz (by omega) (fz_big (by omega))
  rw [List.drop_zero, Nat.zero_add] at this
  exact this
def plI9 (r : Option Nat) (j : Nat) : Int32 := match r with
  | none => -1
  | some d => nI (j + d)
theorem c_placeOf_go (t : wfT h w num) (q : hsD h w es) (ko : kOK es) {k : Nat} (hk : k < 1000) : ∀ (m j n fuel : Nat), j + m = es.length → m < fuel → n < 1000 → f_X1_placeOf_5 fuel (w + 2) (nI k) (nI n) (nI j) h = some (plI9 (plcOf k (es.drop j) n) j, h)
  | m, j, n, 0, _, hf, _ => absurd hf (Nat.not_lt_zero _)
  | 0, j, n, fuel + 1, hj, hf, hn => by
    have hes := q.1.2
    obtain ⟨-, -, ⟨c1, -⟩, -⟩ := id t
    have q1 := q.1.1
    have g2 : nI es.length ≤ nI j := (zi_le (by omega) (by omega)).mpr (by omega)
    rw [List.drop_of_length_le (by omega)]
    unfold f_X1_placeOf_5
    rw [ck_yes c1, q1, if_pos g2]
    rfl
  | m + 1, j, n, fuel + 1, hj, hf, hn => by
    have hes := q.1.2
    obtain ⟨-, -, ⟨c1, c2, c3, c4, c5⟩, ⟨d1, d2, d3, d4⟩, ⟨e1, e2, e3, e4⟩, -⟩ := id t
    have q1 := q.1.1
    have g2 : ¬ nI es.length ≤ nI j := zi_le0 (by omega) (by omega) (by omega)
    have nj : (nI j).toNatClampNeg = j := zi_nat (by omega)
    have gj : ¬ nI j < 0 := zi_neg (by omega)
    have lj : ¬ 60 ≤ j := by omega
    have ev := (q.at (by omega : j < es.length)).1
    have kb := ko _ (ev_mem (by omega : j < es.length))
    have qk : nI (evAt es j).1 = nI k ↔ (evAt es j).1 = k := zi_eq (by omega) (by omega)
    have q0 : nI n = (0 : Int32) ↔ n = 0 := zi_eq (b := 0) (by omega) (by omega)
    have ed : es.drop j = evAt es j :: es.drop (j + 1) := by
      rw [List.drop_eq_getElem_cons (by omega)]
      congr 1
      have := ev_get (by omega : j < es.length)
      rw [List.getElem?_eq_getElem (by omega)] at this
      exact Option.some.inj this
    have sh : ∀ r : Option Nat, plI9 (r.map (· + 1)) j = plI9 r (j + 1) := fun r => by
      cases r with
      | none => rfl
      | some d => show nI (j + (d + 1)) = nI (j + 1 + d); rw [show j + (d + 1) = j + 1 + d by omega]
    rw [ed]
    unfold plcOf
    by_cases c6 : (evAt es j).1 = k
    · have d := eq_true (qk.mpr c6)
      rw [if_pos c6]
      cases n with
      | zero =>
        have d0 := eq_true (q0.mpr rfl)
        simp only [f_X1_placeOf_5, o10, o00, bh, isO, inR, ck_true, bind_some9, Nat.reduceLeDiff, Nat.reduceEqDiff, and_self, and_true, true_and, false_and, and_false, not_false_eq_true, not_true_eq_false, or_self, or_false, false_or, if_true, if_false, reduceIte, zR_pE, zT_pE, zL_pE, zn_pE, zE_pE, zI_pE, zQ_pE, zJ_pE, zR_pI, zT_pI, zL_pI, zn_pI, zE_pI, zI_pI, zQ_pI, zJ_pI, zR_pR, zT_pR, zL_pR, zn_pR, zE_pR, zI_pR, zQ_pR, zJ_pR, zR_pJ, zT_pJ, zL_pJ, zn_pJ, zE_pJ, zI_pJ, zQ_pJ, zJ_pJ, c1, q1, g2, c2, d1, e1, nj, gj, lj, ev, d, d0]
        rfl
      | succ n =>
        have d0 := eq_false (fun z => absurd (q0.mp z) (by omega))
        have ih := c_placeOf_go t q ko hk m (j + 1) n fuel (by omega) (by omega) (by omega)
        have em : nI (n + 1) + (-1 : Int32) = nI n := by
          have := zi_sub (a := n + 1) (b := 1) (by omega)
          rw [show n + 1 - 1 = n from rfl] at this
          rw [← this, Int32.sub_eq_add_neg]
          rfl
        show _ = some (plI9 ((plcOf k (es.drop (j + 1)) n).map (· + 1)) j, h)
        rw [sh, ← ih]
        simp only [f_X1_placeOf_5, f_X1_placeOf_35, o10, o00, bh, isO, inR, ck_true, bind_some9, Nat.reduceLeDiff, Nat.reduceEqDiff, and_self, and_true, true_and, false_and, and_false, not_false_eq_true, not_true_eq_false, or_self, or_false, false_or, if_true, if_false, reduceIte, zR_pE, zT_pE, zL_pE, zn_pE, zE_pE, zI_pE, zQ_pE, zJ_pE, zR_pI, zT_pI, zL_pI, zn_pI, zE_pI, zI_pI, zQ_pI, zJ_pI, zR_pR, zT_pR, zL_pR, zn_pR, zE_pR, zI_pR, zQ_pR, zJ_pR, zR_pJ, zT_pJ, zL_pJ, zn_pJ, zE_pJ, zI_pJ, zQ_pJ, zJ_pJ, c1, q1, g2, c2, d1, e1, nj, gj, lj, ev, d, d0, em, zi_one]
    · have d := eq_false (fun z => c6 (qk.mp z))
      rw [if_neg c6, sh]
      have ih := c_placeOf_go t q ko hk m (j + 1) n fuel (by omega) (by omega) hn
      rw [← ih]
      simp only [f_X1_placeOf_5, f_X1_placeOf_35, o10, o00, bh, isO, inR, ck_true, bind_some9, Nat.reduceLeDiff, Nat.reduceEqDiff, and_self, and_true, true_and, false_and, and_false, not_false_eq_true, not_true_eq_false, or_self, or_false, false_or, if_true, if_false, reduceIte, zR_pE, zT_pE, zL_pE, zn_pE, zE_pE, zI_pE, zQ_pE, zJ_pE, zR_pI, zT_pI, zL_pI, zn_pI, zE_pI, zI_pI, zQ_pI, zJ_pI, zR_pR, zT_pR, zL_pR, zn_pR, zE_pR, zI_pR, zQ_pR, zJ_pR, zR_pJ, zT_pJ, zL_pJ, zn_pJ, zE_pJ, zI_pJ, zQ_pJ, zJ_pJ, c1, q1, g2, c2, d1, e1, nj, gj, lj, ev, d, zi_one]
theorem c_placeOf (t : wfT h w num) (q : hsD h w es) (ko : kOK es) {k n : Nat} (hk : k < 1000) (hn : n < 1000) : f_X1_placeOf (w + 2) (nI k) (nI n) h = some (plI9 (plcOf k es n) 0, h) := by
  have hes := q.1.2
  exact c_placeOf_go t q ko hk es.length 0 n fz (by omega) (fz_big (by omega)) hn
/-- there is no event of number -1 -/
theorem c_placeOf_m (t : wfT h w num) (q : hsD h w es) {k : Int32} : ∀ (m j fuel : Nat) (x : Int32), j + m = es.length → m < fuel → (∃ c, c ≤ j ∧ x = -1 - nI c) → f_X1_placeOf_5 fuel (w + 2) k x (nI j) h = some (-1, h)
  | m, j, 0, x, _, hf, _ => absurd hf (Nat.not_lt_zero _)
  | 0, j, fuel + 1, x, hj, hf, hx => by
    have hes := q.1.2
    obtain ⟨-, -, ⟨c1, -⟩, -⟩ := id t
    have q1 := q.1.1
    have g2 : nI es.length ≤ nI j := (zi_le (by omega) (by omega)).mpr (by omega)
    unfold f_X1_placeOf_5
    rw [ck_yes c1, q1, if_pos g2]
  | m + 1, j, fuel + 1, x, hj, hf, ⟨c, hc, hx⟩ => by
    have hes := q.1.2
    obtain ⟨-, -, ⟨c1, c2, c3, c4, c5⟩, ⟨d1, d2, d3, d4⟩, ⟨e1, e2, e3, e4⟩, -⟩ := id t
    have q1 := q.1.1
    have g2 : ¬ nI es.length ≤ nI j := zi_le0 (by omega) (by omega) (by omega)
    have nj : (nI j).toNatClampNeg = j := zi_nat (by omega)
    have gj : ¬ nI j < 0 := zi_neg (by omega)
    have lj : ¬ 60 ≤ j := by omega
    have x0 : (x = 0) = False := eq_false (fun z => by
      rw [hx] at z
      have z2 : nI c = -1 := by
        have : (-1 : Int32) - nI c + nI c = 0 + nI c := by rw [z]
        rw [Int32.sub_add_cancel, Int32.zero_add] at this
        exact this.symm
      exact zi_ne1 (by omega) z2)
    by_cases d : zE h (w + 3) j = k
    · have ih := c_placeOf_m t q (k := k) m (j + 1) fuel (x + -1) (by omega) (by omega) ⟨c + 1, by omega, by
        have e1 : (-1 : Int32) = -nI 1 := by decide
        have e2 : x + -1 = x + -nI 1 := congrArg (fun z => x + z) e1
        rw [e2, hx, ← zi_add c 1, Int32.sub_eq_add_neg, Int32.sub_eq_add_neg, Int32.neg_add, Int32.add_assoc, Int32.sub_eq_add_neg (-nI c)]⟩
      have d := eq_true d
      rw [← ih]
      simp only [f_X1_placeOf_5, f_X1_placeOf_35, o10, o00, bh, isO, inR, ck_true, bind_some9, Nat.reduceLeDiff, Nat.reduceEqDiff, and_self, and_true, true_and, false_and, and_false, not_false_eq_true, not_true_eq_false, or_self, or_false, false_or, if_true, if_false, reduceIte, zR_pE, zT_pE, zL_pE, zn_pE, zE_pE, zI_pE, zQ_pE, zJ_pE, zR_pI, zT_pI, zL_pI, zn_pI, zE_pI, zI_pI, zQ_pI, zJ_pI, zR_pR, zT_pR, zL_pR, zn_pR, zE_pR, zI_pR, zQ_pR, zJ_pR, zR_pJ, zT_pJ, zL_pJ, zn_pJ, zE_pJ, zI_pJ, zQ_pJ, zJ_pJ, c1, q1, g2, c2, d1, e1, nj, gj, lj, d, x0, zi_one]
    · have ih := c_placeOf_m t q (k := k) m (j + 1) fuel x (by omega) (by omega) ⟨c, by omega, hx⟩
      have d := eq_false d
      rw [← ih]
      simp only [f_X1_placeOf_5, f_X1_placeOf_35, o10, o00, bh, isO, inR, ck_true, bind_some9, Nat.reduceLeDiff, Nat.reduceEqDiff, and_self, and_true, true_and, false_and, and_false, not_false_eq_true, not_true_eq_false, or_self, or_false, false_or, if_true, if_false, reduceIte, zR_pE, zT_pE, zL_pE, zn_pE, zE_pE, zI_pE, zQ_pE, zJ_pE, zR_pI, zT_pI, zL_pI, zn_pI, zE_pI, zI_pI, zQ_pI, zJ_pI, zR_pR, zT_pR, zL_pR, zn_pR, zE_pR, zI_pR, zQ_pR, zJ_pR, zR_pJ, zT_pJ, zL_pJ, zn_pJ, zE_pJ, zI_pJ, zQ_pJ, zJ_pJ, c1, q1, g2, c2, d1, e1, nj, gj, lj, d, x0, zi_one]
theorem c_endOf_go (t : wfT h w num) (q : hsD h w es) (ko : kOK es) (c : Int32) : ∀ (m j fuel : Nat), j + m = es.length → m < fuel → f_X1_endOfChild_2 fuel (w + 2) c (nI j) h = some (plI9 (endOf c (es.drop j)) j, h)
  | m, j, 0, _, hf => absurd hf (Nat.not_lt_zero _)
  | 0, j, fuel + 1, hj, hf => by
    have hes := q.1.2
    obtain ⟨-, -, ⟨c1, -⟩, -⟩ := id t
    have q1 := q.1.1
    have g2 : nI es.length ≤ nI j := (zi_le (by omega) (by omega)).mpr (by omega)
    rw [List.drop_of_length_le (by omega)]
    unfold f_X1_endOfChild_2
    rw [ck_yes c1, q1, if_pos g2]
    rfl
  | m + 1, j, fuel + 1, hj, hf => by
    have hes := q.1.2
    obtain ⟨-, -, ⟨c1, c2, c3, c4, c5⟩, ⟨d1, d2, d3, d4⟩, ⟨e1, e2, e3, e4⟩, -⟩ := id t
    have q1 := q.1.1
    have g2 : ¬ nI es.length ≤ nI j := zi_le0 (by omega) (by omega) (by omega)
    have nj : (nI j).toNatClampNeg = j := zi_nat (by omega)
    have gj : ¬ nI j < 0 := zi_neg (by omega)
    have lj : ¬ 60 ≤ j := by omega
    have ev := (q.at (by omega : j < es.length)).1
    have ev4 := (q.at (by omega : j < es.length)).2.1
    have kb := ko _ (ev_mem (by omega : j < es.length))
    have qk : nI (evAt es j).1 = (7 : Int32) ↔ (evAt es j).1 = 7 := zi_eq (b := 7) (by omega) (by omega)
    have ed : es.drop j = evAt es j :: es.drop (j + 1) := by
      rw [List.drop_eq_getElem_cons (by omega)]
      congr 1
      have := ev_get (by omega : j < es.length)
      rw [List.getElem?_eq_getElem (by omega)] at this
      exact Option.some.inj this
    have sh : ∀ r : Option Nat, plI9 (r.map (· + 1)) j = plI9 r (j + 1) := fun r => by
      cases r with
      | none => rfl
      | some d => show nI (j + (d + 1)) = nI (j + 1 + d); rw [show j + (d + 1) = j + 1 + d by omega]
    have ih := c_endOf_go t q ko c m (j + 1) fuel (by omega) (by omega)
    rw [ed]
    unfold endOf
    by_cases c7 : (evAt es j).1 = 7
    · have d := eq_true (qk.mpr c7)
      by_cases cc : (evAt es j).2.1 = c
      · have dc := eq_true cc
        rw [if_pos ⟨c7, cc⟩]
        simp only [f_X1_endOfChild_2, o10, o00, bh, isO, inR, ck_true, bind_some9, Nat.reduceLeDiff, Nat.reduceEqDiff, and_self, and_true, true_and, false_and, and_false, not_false_eq_true, not_true_eq_false, or_self, or_false, false_or, if_true, if_false, reduceIte, zR_pE, zT_pE, zL_pE, zn_pE, zE_pE, zI_pE, zQ_pE, zJ_pE, zR_pI, zT_pI, zL_pI, zn_pI, zE_pI, zI_pI, zQ_pI, zJ_pI, zR_pR, zT_pR, zL_pR, zn_pR, zE_pR, zI_pR, zQ_pR, zJ_pR, zR_pJ, zT_pJ, zL_pJ, zn_pJ, zE_pJ, zI_pJ, zQ_pJ, zJ_pJ, c1, q1, g2, c2, c3, d1, d2, e1, e2, nj, gj, lj, ev, ev4, d, dc]
        rfl
      · have dc := eq_false cc
        rw [if_neg (fun z => cc z.2), sh, ← ih]
        simp only [f_X1_endOfChild_2, f_X1_endOfChild_33, o10, o00, bh, isO, inR, ck_true, bind_some9, Nat.reduceLeDiff, Nat.reduceEqDiff, and_self, and_true, true_and, false_and, and_false, not_false_eq_true, not_true_eq_false, or_self, or_false, false_or, if_true, if_false, reduceIte, zR_pE, zT_pE, zL_pE, zn_pE, zE_pE, zI_pE, zQ_pE, zJ_pE, zR_pI, zT_pI, zL_pI, zn_pI, zE_pI, zI_pI, zQ_pI, zJ_pI, zR_pR, zT_pR, zL_pR, zn_pR, zE_pR, zI_pR, zQ_pR, zJ_pR, zR_pJ, zT_pJ, zL_pJ, zn_pJ, zE_pJ, zI_pJ, zQ_pJ, zJ_pJ, c1, q1, g2, c2, c3, d1, d2, e1, e2, nj, gj, lj, ev, ev4, d, dc, zi_one]
    · have d := eq_false (fun z => c7 (qk.mp z))
      rw [if_neg (fun z => c7 z.1), sh, ← ih]
      simp only [f_X1_endOfChild_2, f_X1_endOfChild_33, o10, o00, bh, isO, inR, ck_true, bind_some9, Nat.reduceLeDiff, Nat.reduceEqDiff, and_self, and_true, true_and, false_and, and_false, not_false_eq_true, not_true_eq_false, or_self, or_false, false_or, if_true, if_false, reduceIte, zR_pE, zT_pE, zL_pE, zn_pE, zE_pE, zI_pE, zQ_pE, zJ_pE, zR_pI, zT_pI, zL_pI, zn_pI, zE_pI, zI_pI, zQ_pI, zJ_pI, zR_pR, zT_pR, zL_pR, zn_pR, zE_pR, zI_pR, zQ_pR, zJ_pR, zR_pJ, zT_pJ, zL_pJ, zn_pJ, zE_pJ, zI_pJ, zQ_pJ, zJ_pJ, c1, q1, g2, c2, c3, d1, d2, e1, e2, nj, gj, lj, ev, d, zi_one]
theorem c_endOf (t : wfT h w num) (q : hsD h w es) (ko : kOK es) (c : Int32) : f_X1_endOfChild (w + 2) c h = some (plI9 (endOf c es) 0, h) := by
  have hes := q.1.2
  exact c_endOf_go t q ko c es.length 0 fz (by omega) (fz_big (by omega))
theorem c_hasSig_go (t : wfT h w num) (q : hsD h w es) (ko : kOK es) (o : Int32) : ∀ (m j fuel : Nat), j + m = es.length → m < fuel → f_X1_hasSignalFrom_2 fuel (w + 2) o (nI j) h = some (if hasSig (es.drop j) o = true then 1 else 0, h)
  | m, j, 0, _, hf => absurd hf (Nat.not_lt_zero _)
  | 0, j, fuel + 1, hj, hf => by
    have hes := q.1.2
    obtain ⟨-, -, ⟨c1, -⟩, -⟩ := id t
    have q1 := q.1.1
    have g2 : nI es.length ≤ nI j := (zi_le (by omega) (by omega)).mpr (by omega)
    rw [List.drop_of_length_le (by omega)]
    unfold f_X1_hasSignalFrom_2
    rw [ck_yes c1, q1, if_pos g2]
    rfl
  | m + 1, j, fuel + 1, hj, hf => by
    have hes := q.1.2
    obtain ⟨-, -, ⟨c1, c2, c3, c4, c5⟩, ⟨d1, d2, d3, d4⟩, ⟨e1, e2, e3, e4⟩, -⟩ := id t
    have q1 := q.1.1
    have g2 : ¬ nI es.length ≤ nI j := zi_le0 (by omega) (by omega) (by omega)
    have nj : (nI j).toNatClampNeg = j := zi_nat (by omega)
    have gj : ¬ nI j < 0 := zi_neg (by omega)
    have lj : ¬ 60 ≤ j := by omega
    have ev := (q.at (by omega : j < es.length)).1
    have ev6 := (q.at (by omega : j < es.length)).2.2.2
    have kb := ko _ (ev_mem (by omega : j < es.length))
    have qk : nI (evAt es j).1 = (8 : Int32) ↔ (evAt es j).1 = 8 := zi_eq (b := 8) (by omega) (by omega)
    have ed : es.drop j = evAt es j :: es.drop (j + 1) := by
      rw [List.drop_eq_getElem_cons (by omega)]
      congr 1
      have := ev_get (by omega : j < es.length)
      rw [List.getElem?_eq_getElem (by omega)] at this
      exact Option.some.inj this
    have ih := c_hasSig_go t q ko o m (j + 1) fuel (by omega) (by omega)
    have hc : hasSig (es.drop j) o = ((decide ((evAt es j).1 = 8) && decide ((evAt es j).2.2.2 = o)) || hasSig (es.drop (j + 1)) o) := by rw [ed]; rfl
    rw [hc]
    by_cases c8 : (evAt es j).1 = 8
    · have d := eq_true (qk.mpr c8)
      by_cases cc : (evAt es j).2.2.2 = o
      · have dc := eq_true cc
        rw [decide_eq_true c8, decide_eq_true cc, Bool.true_and, Bool.true_or, if_pos rfl]
        simp only [f_X1_hasSignalFrom_2, o10, o00, bh, isO, inR, ck_true, bind_some9, Nat.reduceLeDiff, Nat.reduceEqDiff, and_self, and_true, true_and, false_and, and_false, not_false_eq_true, not_true_eq_false, or_self, or_false, false_or, if_true, if_false, reduceIte, zR_pE, zT_pE, zL_pE, zn_pE, zE_pE, zI_pE, zQ_pE, zJ_pE, zR_pI, zT_pI, zL_pI, zn_pI, zE_pI, zI_pI, zQ_pI, zJ_pI, zR_pR, zT_pR, zL_pR, zn_pR, zE_pR, zI_pR, zQ_pR, zJ_pR, zR_pJ, zT_pJ, zL_pJ, zn_pJ, zE_pJ, zI_pJ, zQ_pJ, zJ_pJ, c1, q1, g2, c2, c5, d1, d4, e1, e4, nj, gj, lj, ev, ev6, d, dc]
      · have dc := eq_false cc
        rw [decide_eq_false cc, Bool.and_false, Bool.false_or, ← ih]
        simp only [f_X1_hasSignalFrom_2, f_X1_hasSignalFrom_33, o10, o00, bh, isO, inR, ck_true, bind_some9, Nat.reduceLeDiff, Nat.reduceEqDiff, and_self, and_true, true_and, false_and, and_false, not_false_eq_true, not_true_eq_false, or_self, or_false, false_or, if_true, if_false, reduceIte, zR_pE, zT_pE, zL_pE, zn_pE, zE_pE, zI_pE, zQ_pE, zJ_pE, zR_pI, zT_pI, zL_pI, zn_pI, zE_pI, zI_pI, zQ_pI, zJ_pI, zR_pR, zT_pR, zL_pR, zn_pR, zE_pR, zI_pR, zQ_pR, zJ_pR, zR_pJ, zT_pJ, zL_pJ, zn_pJ, zE_pJ, zI_pJ, zQ_pJ, zJ_pJ, c1, q1, g2, c2, c5, d1, d4, e1, e4, nj, gj, lj, ev, ev6, d, dc, zi_one]
    · have d := eq_false (fun z => c8 (qk.mp z))
      rw [decide_eq_false c8, Bool.false_and, Bool.false_or, ← ih]
      simp only [f_X1_hasSignalFrom_2, f_X1_hasSignalFrom_33, o10, o00, bh, isO, inR, ck_true, bind_some9, Nat.reduceLeDiff, Nat.reduceEqDiff, and_self, and_true, true_and, false_and, and_false, not_false_eq_true, not_true_eq_false, or_self, or_false, false_or, if_true, if_false, reduceIte, zR_pE, zT_pE, zL_pE, zn_pE, zE_pE, zI_pE, zQ_pE, zJ_pE, zR_pI, zT_pI, zL_pI, zn_pI, zE_pI, zI_pI, zQ_pI, zJ_pI, zR_pR, zT_pR, zL_pR, zn_pR, zE_pR, zI_pR, zQ_pR, zJ_pR, zR_pJ, zT_pJ, zL_pJ, zn_pJ, zE_pJ, zI_pJ, zQ_pJ, zJ_pJ, c1, q1, g2, c2, d1, e1, nj, gj, lj, ev, d, zi_one]
theorem c_hasSig (t : wfT h w num) (q : hsD h w es) (ko : kOK es) (o : Int32) : f_X1_hasSignalFrom (w + 2) o h = some (if hasSig es o = true then 1 else 0, h) := by
  have hes := q.1.2
  have := c_hasSig_go t q ko o es.length 0 fz (by omega) (fz_big (by omega))
  rw [List.drop_zero] at this
  exact this
end Hist
/-! THE CLASS'S WALKERS -/
def wkX (w a j : Nat) : Prop := (a = w ∧ 1005 ≤ j ∧ j ≤ 1013) ∨ a = w + 1
/-- what a walker needs of its program -/
def pgC (h : Hp) (w : Nat) (P : Prg) : Prop := ∃ p c, (zR h 1004 w = p ∧ isO h p 5 ∧ zI h 500 p = nI P.length) ∧ (zR h 501 p = c ∧ isO h c 22 ∧ zL h c = 8 * P.length) ∧ (p ≠ w ∧ p ≠ w + 1 ∧ c ≠ w ∧ c ≠ w + 1) ∧ ∀ j, j < P.length → zE h c (8 * j) = (stpAt P j).1 ∧ zE h c (8 * j + 1) = (stpAt P j).2.1 ∧ zE h c (8 * j + 2) = (stpAt P j).2.2.1 ∧ zE h c (8 * j + 4) = (stpAt P j).2.2.2.1.1 ∧ zE h c (8 * j + 5) = (stpAt P j).2.2.2.1.2 ∧ zE h c (8 * j + 6) = (stpAt P j).2.2.2.2.1 ∧ zE h c (8 * j + 7) = (stpAt P j).2.2.2.2.2
theorem pgC.on {h h1 : Hp} {w : Nat} {P : Prg} {num : Nat} (g : pgC h w P) (t : wfT h w num) (f : cf (wkX w) h h1) : pgC h1 w P := by
  obtain ⟨p, c, ⟨a1, a2, a3⟩, ⟨b1, b2, b3⟩, ⟨n1, n2, n3, n4⟩, d⟩ := g
  refine ⟨p, c, ⟨(f.R t.1.1 (by unfold wkX; omega)).trans a1, f.O a2, (f.I a2 (by unfold wkX; omega)).trans a3⟩, ⟨(f.R a2 (by unfold wkX; omega)).trans b1, f.O b2, (f.L b2).trans b3⟩, ⟨n1, n2, n3, n4⟩, fun j hj => ?_⟩
  have z : ∀ i, zE h1 c i = zE h c i := fun i => f.E b2 (by unfold wkX; omega)
  rw [z, z, z, z, z, z, z]
  exact d j hj
theorem wfT.wk {h h1 : Hp} {w num : Nat} (t : wfT h w num) (f : cf (wkX w) h h1) : wfT h1 w num := t.on f (fun j _ _ => by unfold wkX; omega) (fun j _ _ => by unfold wkX; omega)
theorem hsD.wk {h h1 : Hp} {w num : Nat} {es : List Evt} (q : hsD h w es) (t : wfT h w num) (f : cf (wkX w) h h1) : hsD h1 w es := q.on t f (by unfold wkX; omega) (fun a j _ _ => by unfold wkX; omega)
section Walk
variable {h : Hp} {w num : Nat} {W : Wkr} {P : Prg} {es : List Evt}
theorem c_leave (t : wfT h w num) (q : wkD h w W) (s : Nat) : ∃ h1, f_X9_leave w (nI s) h = some h1 ∧ wkD h1 w (wkLeave W s) ∧ cf (wkX w) h h1 ∧ nz h h1 := by
  obtain ⟨⟨a1, -⟩, -⟩ := t
  obtain ⟨q0, q1, q2, q3, q4, q5, q6, q7⟩ := q
  refine ⟨pI (pI h 1005 w (nI s)) 1006 w (nI (wkN W + 1)), ?_, ⟨q0, ?_, ?_, ?_, ?_, ?_, ?_, ?_⟩, (cf_pI (Or.inl ⟨rfl, by omega, by omega⟩)).tr (cf_pI (Or.inl ⟨rfl, by omega, by omega⟩)), rfl⟩
  · simp only [f_X9_leave, o10, o00, bh, isO, inR, ck_true, bind_some9, Nat.reduceLeDiff, Nat.reduceEqDiff, and_self, and_true, true_and, false_and, and_false, not_false_eq_true, not_true_eq_false, or_self, or_false, false_or, if_true, if_false, reduceIte, zR_pE, zT_pE, zL_pE, zn_pE, zE_pE, zI_pE, zQ_pE, zJ_pE, zR_pI, zT_pI, zL_pI, zn_pI, zE_pI, zI_pI, zQ_pI, zJ_pI, zR_pR, zT_pR, zL_pR, zn_pR, zE_pR, zI_pR, zQ_pR, zJ_pR, zR_pJ, zT_pJ, zL_pJ, zn_pJ, zE_pJ, zI_pJ, zQ_pJ, zJ_pJ, a1, q2, zi_one]
  · rw [zI_pI, if_neg (by omega), zI_pI, if_pos ⟨rfl, rfl⟩]; rfl
  · rw [zI_pI, if_pos ⟨rfl, rfl⟩]; rfl
  all_goals (rw [zI_pI, if_neg (by omega), zI_pI, if_neg (by omega)]; assumption)
theorem c_rest (t : wfT h w num) (q : wkD h w W) (p : Nat) (a : Int32) : ∃ h1, f_X9_rest w (nI p) a h = some h1 ∧ wkD h1 w (wkRest W p a) ∧ cf (wkX w) h h1 ∧ nz h h1 := by
  obtain ⟨⟨a1, -⟩, -⟩ := t
  obtain ⟨q0, q1, q2, q3, q4, q5, q6, q7⟩ := q
  refine ⟨pI (pI h 1007 w (nI p)) 1008 w a, ?_, ⟨q0, ?_, ?_, ?_, ?_, ?_, ?_, ?_⟩, (cf_pI (Or.inl ⟨rfl, by omega, by omega⟩)).tr (cf_pI (Or.inl ⟨rfl, by omega, by omega⟩)), rfl⟩
  · simp only [f_X9_rest, o10, o00, bh, isO, inR, ck_true, bind_some9, Nat.reduceLeDiff, Nat.reduceEqDiff, and_self, and_true, true_and, false_and, and_false, not_false_eq_true, not_true_eq_false, or_self, or_false, false_or, if_true, if_false, reduceIte, zR_pE, zT_pE, zL_pE, zn_pE, zE_pE, zI_pE, zQ_pE, zJ_pE, zR_pI, zT_pI, zL_pI, zn_pI, zE_pI, zI_pI, zQ_pI, zJ_pI, zR_pR, zT_pR, zL_pR, zn_pR, zE_pR, zI_pR, zQ_pR, zJ_pR, zR_pJ, zT_pJ, zL_pJ, zn_pJ, zE_pJ, zI_pJ, zQ_pJ, zJ_pJ, a1]
  · rw [zI_pI, if_neg (by omega), zI_pI, if_neg (by omega)]; exact q1
  · rw [zI_pI, if_neg (by omega), zI_pI, if_neg (by omega)]; exact q2
  · rw [zI_pI, if_neg (by omega), zI_pI, if_pos ⟨rfl, rfl⟩]; rfl
  · exact fun _ => by rw [zI_pI, if_pos ⟨rfl, rfl⟩]; rfl
  all_goals (rw [zI_pI, if_neg (by omega), zI_pI, if_neg (by omega)]; assumption)
theorem c_resume (t : wfT h w num) (q : wkD h w W) : ∃ h1, f_X9_resume w h = some h1 ∧ wkD h1 w (wkResume W) ∧ cf (wkX w) h h1 ∧ nz h h1 := by
  obtain ⟨⟨a1, -⟩, -⟩ := t
  obtain ⟨q0, q1, q2, q3, q4, q5, q6, q7⟩ := q
  refine ⟨pI (pI h 1006 w 0) 1007 w 5, ?_, ⟨q0, ?_, ?_, ?_, ?_, ?_, ?_, ?_⟩, (cf_pI (Or.inl ⟨rfl, by omega, by omega⟩)).tr (cf_pI (Or.inl ⟨rfl, by omega, by omega⟩)), rfl⟩
  · simp only [f_X9_resume, o10, o00, bh, isO, inR, ck_true, bind_some9, Nat.reduceLeDiff, Nat.reduceEqDiff, and_self, and_true, true_and, false_and, and_false, not_false_eq_true, not_true_eq_false, or_self, or_false, false_or, if_true, if_false, reduceIte, zR_pE, zT_pE, zL_pE, zn_pE, zE_pE, zI_pE, zQ_pE, zJ_pE, zR_pI, zT_pI, zL_pI, zn_pI, zE_pI, zI_pI, zQ_pI, zJ_pI, zR_pR, zT_pR, zL_pR, zn_pR, zE_pR, zI_pR, zQ_pR, zJ_pR, zR_pJ, zT_pJ, zL_pJ, zn_pJ, zE_pJ, zI_pJ, zQ_pJ, zJ_pJ, a1]
  · rw [zI_pI, if_neg (by omega), zI_pI, if_neg (by omega)]; exact q1
  · rw [zI_pI, if_neg (by omega), zI_pI, if_pos ⟨rfl, rfl⟩]; rfl
  · rw [zI_pI, if_pos ⟨rfl, rfl⟩]; rfl
  · exact fun z => absurd z (by show ¬ (5 = 1 ∨ 5 = 3); decide)
  all_goals (rw [zI_pI, if_neg (by omega), zI_pI, if_neg (by omega)]; assumption)
/-- one more is taken -/
theorem c_took (q : wkD h w W) : wkD (pI h 1009 w (nI (wkT W + 1))) w (wkTook W) := by
  obtain ⟨q0, q1, q2, q3, q4, q5, q6, q7⟩ := q
  refine ⟨q0, ?_, ?_, ?_, ?_, ?_, ?_, ?_⟩
  · rw [zI_pI, if_neg (by omega)]; exact q1
  · rw [zI_pI, if_neg (by omega)]; exact q2
  · rw [zI_pI, if_neg (by omega)]; exact q3
  · rw [zI_pI, if_neg (by omega)]; exact q4
  · rw [zI_pI, if_pos ⟨rfl, rfl⟩]; rfl
  · rw [zI_pI, if_neg (by omega)]; exact q6
  · rw [zI_pI, if_neg (by omega)]; exact q7
theorem c_born (q : wkD h w W) : wkD (pI h 1010 w (nI (wkC W + 1))) w (wkBorn W) := by
  obtain ⟨q0, q1, q2, q3, q4, q5, q6, q7⟩ := q
  refine ⟨q0, ?_, ?_, ?_, ?_, ?_, ?_, ?_⟩
  · rw [zI_pI, if_neg (by omega)]; exact q1
  · rw [zI_pI, if_neg (by omega)]; exact q2
  · rw [zI_pI, if_neg (by omega)]; exact q3
  · rw [zI_pI, if_neg (by omega)]; exact q4
  · rw [zI_pI, if_neg (by omega)]; exact q5
  · rw [zI_pI, if_pos ⟨rfl, rfl⟩]; rfl
  · rw [zI_pI, if_neg (by omega)]; exact q7
theorem c_set44 (t : wfT h w num) (q : wkD h w W) : ∃ h1, f_X9_set_44 w h = some h1 ∧ wkD h1 w (wkV W, wkS W + 1, wkN W + 1, wkP W, wkA W, wkT W, wkC W, wkO W) ∧ cf (wkX w) h h1 ∧ nz h h1 := by
  obtain ⟨⟨a1, -⟩, -⟩ := t
  obtain ⟨q0, q1, q2, q3, q4, q5, q6, q7⟩ := q
  refine ⟨pI (pI h 1005 w (nI (wkS W + 1))) 1006 w (nI (wkN W + 1)), ?_, ⟨q0, ?_, ?_, ?_, ?_, ?_, ?_, ?_⟩, (cf_pI (Or.inl ⟨rfl, by omega, by omega⟩)).tr (cf_pI (Or.inl ⟨rfl, by omega, by omega⟩)), rfl⟩
  · simp only [f_X9_set_44, o10, o00, bh, isO, inR, ck_true, bind_some9, Nat.reduceLeDiff, Nat.reduceEqDiff, and_self, and_true, true_and, false_and, and_false, not_false_eq_true, not_true_eq_false, or_self, or_false, false_or, if_true, if_false, reduceIte, zR_pE, zT_pE, zL_pE, zn_pE, zE_pE, zI_pE, zQ_pE, zJ_pE, zR_pI, zT_pI, zL_pI, zn_pI, zE_pI, zI_pI, zQ_pI, zJ_pI, zR_pR, zT_pR, zL_pR, zn_pR, zE_pR, zI_pR, zQ_pR, zJ_pR, zR_pJ, zT_pJ, zL_pJ, zn_pJ, zE_pJ, zI_pJ, zQ_pJ, zJ_pJ, a1, q1, q2, zi_one]
  · rw [zI_pI, if_neg (by omega), zI_pI, if_pos ⟨rfl, rfl⟩]
  · rw [zI_pI, if_pos ⟨rfl, rfl⟩]
  all_goals (rw [zI_pI, if_neg (by omega), zI_pI, if_neg (by omega)]; assumption)
theorem c_set (t : wfT h w num) (q : wkD h w W) (g : pgC h w P) (hS : wkS W < 100) (hP : P.length ≤ 60) (hg : wkS W < P.length → ∃ v, v < 8 ∧ (stpAt P (wkS W)).2.1 = nI v) (v : Int32) : ∃ h1, f_X9_set w v h = some h1 ∧ wkD h1 w (wkSet P W v) ∧ cf (wkX w) h h1 ∧ nz h h1 := by
  obtain ⟨p, c, ⟨a1, a2, a3⟩, ⟨b1, b2, b3⟩, ⟨n1, n2, n3, n4⟩, d⟩ := g
  obtain ⟨⟨t1, t2, t3, t4, t5⟩, ⟨u1, u2⟩, -⟩ := id t
  have q1 := q.2.1
  have p0 : (p = 0) = False := eq_false (by have := a2.1; omega)
  have qc : nI P.length ≤ nI (wkS W) ↔ P.length ≤ wkS W := zi_le (by omega) (by omega)
  by_cases cS : wkS W < P.length
  · obtain ⟨vv, hv8, ev⟩ := hg cS
    have dS := eq_false (fun z => absurd (qc.mp z) (by omega))
    have e8 : nI (wkS W) * (8 : Int32) + 1 = nI (8 * wkS W + 1) := by rw [show (8 : Int32) = nI 8 from rfl, zi_mul, show (1 : Int32) = nI 1 from rfl, zi_add, Nat.mul_comm]
    have n8 : (nI (8 * wkS W + 1)).toNatClampNeg = 8 * wkS W + 1 := zi_nat (by omega)
    have g8 : ¬ nI (8 * wkS W + 1) < 0 := zi_neg (by omega)
    have l8 : ¬ 8 * P.length ≤ 8 * wkS W + 1 := by omega
    have ec := (d (wkS W) cS).2.1
    rw [ev] at ec
    have nv : (nI vv).toNatClampNeg = vv := zi_nat (by omega)
    have gv : ¬ nI vv < 0 := zi_neg (by omega)
    have lv : ¬ 8 ≤ vv := by omega
    have fE : cf (wkX w) h (pE h (w + 1) vv v) := cf_pE (Or.inr rfl)
    have qE : wkD (pE h (w + 1) vv v) w (upf (wkV W) vv v, wkS W, wkN W, wkP W, wkA W, wkT W, wkC W, wkO W) := by
      obtain ⟨q0, qr⟩ := q
      refine ⟨fun x hx => ?_, qr⟩
      rw [zE_pE]
      show (if w + 1 = w + 1 ∧ x = vv then v else zE h (w + 1) x) = upf (wkV W) vv v x
      unfold upf
      by_cases cx : x = vv
      · rw [if_pos ⟨rfl, cx⟩, if_pos cx]
      · rw [if_neg (fun z => cx z.2), if_neg cx]; exact q0 x hx
    obtain ⟨h1, x1, x2, x3, x4⟩ := c_set44 (t.wk fE) qE
    have eW : wkSet P W v = (upf (wkV W) vv v, wkS W + 1, wkN W + 1, wkP W, wkA W, wkT W, wkC W, wkO W) := by
      unfold wkSet
      rw [if_pos cS, ev, nv]
    refine ⟨h1, ?_, by rw [eW]; exact x2, fE.tr x3, x4⟩
    rw [← x1]
    simp only [f_X9_set, o10, o00, bh, isO, inR, ck_true, bind_some9, Nat.reduceLeDiff, Nat.reduceEqDiff, and_self, and_true, true_and, false_and, and_false, not_false_eq_true, not_true_eq_false, or_self, or_false, false_or, if_true, if_false, reduceIte, zR_pE, zT_pE, zL_pE, zn_pE, zE_pE, zI_pE, zQ_pE, zJ_pE, zR_pI, zT_pI, zL_pI, zn_pI, zE_pI, zI_pI, zQ_pI, zJ_pI, zR_pR, zT_pR, zL_pR, zn_pR, zE_pR, zI_pR, zQ_pR, zJ_pR, zR_pJ, zT_pJ, zL_pJ, zn_pJ, zE_pJ, zI_pJ, zQ_pJ, zJ_pJ, t1, t3, u1, u2, a1, p0, a2, a3, q1, dS, b1, b2, b3, e8, n8, g8, l8, ec, nv, gv, lv]
  · have dS := eq_true (qc.mpr (by omega))
    obtain ⟨h1, x1, x2, x3, x4⟩ := c_set44 t q
    have eW : wkSet P W v = (wkV W, wkS W + 1, wkN W + 1, wkP W, wkA W, wkT W, wkC W, wkO W) := by
      unfold wkSet
      rw [if_neg cS]
    refine ⟨h1, ?_, by rw [eW]; exact x2, x3, x4⟩
    rw [← x1]
    simp only [f_X9_set, o10, o00, bh, isO, inR, ck_true, bind_some9, Nat.reduceLeDiff, Nat.reduceEqDiff, and_self, and_true, true_and, false_and, and_false, not_false_eq_true, not_true_eq_false, or_self, or_false, false_or, if_true, if_false, reduceIte, zR_pE, zT_pE, zL_pE, zn_pE, zE_pE, zI_pE, zQ_pE, zJ_pE, zR_pI, zT_pI, zL_pI, zn_pI, zE_pI, zI_pI, zQ_pI, zJ_pI, zR_pR, zT_pR, zL_pR, zn_pR, zE_pR, zI_pR, zQ_pR, zJ_pR, zR_pJ, zT_pJ, zL_pJ, zn_pJ, zE_pJ, zI_pJ, zQ_pJ, zJ_pJ, t1, a1, p0, a2, a3, q1, dS]
/-- a value of a step: at g = 4 the first, at g = 6 the second -/
theorem c_value (t : wfT h w num) (q : wkD h w W) (g : pgC h w P) (hP : P.length ≤ 60) (hS : wkS W < P.length) {o : Nat} {x : Int32 × Int32} (ho : (o = 4 ∧ x = (stpAt P (wkS W)).2.2.2.1) ∨ (o = 6 ∧ x = (stpAt P (wkS W)).2.2.2.2)) (hx : vlQ x) : f_X9_value w (nI (8 * wkS W + o)) h = some (valOf (wkV W) x, h) := by
  obtain ⟨p, c, ⟨a1, a2, a3⟩, ⟨b1, b2, b3⟩, ⟨n1, n2, n3, n4⟩, d⟩ := g
  obtain ⟨⟨t1, t2, t3, t4, t5⟩, ⟨u1, u2⟩, -⟩ := id t
  have n8 : (nI (8 * wkS W + o)).toNatClampNeg = 8 * wkS W + o := zi_nat (by omega)
  have g8 : ¬ nI (8 * wkS W + o) < 0 := zi_neg (by omega)
  have l8 : ¬ 8 * P.length ≤ 8 * wkS W + o := by omega
  have n9 : (nI (8 * wkS W + o + 1)).toNatClampNeg = 8 * wkS W + o + 1 := zi_nat (by omega)
  have g9 : ¬ nI (8 * wkS W + o + 1) < 0 := zi_neg (by omega)
  have l9 : ¬ 8 * P.length ≤ 8 * wkS W + o + 1 := by omega
  have e1 : zE h c (8 * wkS W + o) = x.1 ∧ zE h c (8 * wkS W + o + 1) = x.2 := by
    rcases ho with ⟨rfl, rfl⟩ | ⟨rfl, rfl⟩
    · exact ⟨(d _ hS).2.2.2.1, (d _ hS).2.2.2.2.1⟩
    · exact ⟨(d _ hS).2.2.2.2.2.1, (d _ hS).2.2.2.2.2.2⟩
  obtain ⟨e1, e2⟩ := e1
  unfold valOf
  by_cases cm : x.1 = -1
  · rw [if_pos cm]
    have dm := eq_true cm
    simp only [f_X9_value, o10, o00, bh, isO, inR, ck_true, bind_some9, Nat.reduceLeDiff, Nat.reduceEqDiff, and_self, and_true, true_and, false_and, and_false, not_false_eq_true, not_true_eq_false, or_self, or_false, false_or, if_true, if_false, reduceIte, zR_pE, zT_pE, zL_pE, zn_pE, zE_pE, zI_pE, zQ_pE, zJ_pE, zR_pI, zT_pI, zL_pI, zn_pI, zE_pI, zI_pI, zQ_pI, zJ_pI, zR_pR, zT_pR, zL_pR, zn_pR, zE_pR, zI_pR, zQ_pR, zJ_pR, zR_pJ, zT_pJ, zL_pJ, zn_pJ, zE_pJ, zI_pJ, zQ_pJ, zJ_pJ, t1, a1, a2, b1, b2, b3, n8, g8, l8, e1, dm, zi_one, n9, g9, l9, e2]
  · rw [if_neg cm]
    have dm := eq_false cm
    obtain ⟨vv, hv, ev⟩ := hx.resolve_left cm
    have nv : (nI vv).toNatClampNeg = vv := zi_nat (by omega)
    have gv : ¬ nI vv < 0 := zi_neg (by omega)
    have lv : ¬ 8 ≤ vv := by omega
    rw [ev] at e1 dm ⊢
    have qv := q.1 vv hv
    simp only [f_X9_value, o10, o00, bh, isO, inR, ck_true, bind_some9, Nat.reduceLeDiff, Nat.reduceEqDiff, and_self, and_true, true_and, false_and, and_false, not_false_eq_true, not_true_eq_false, or_self, or_false, false_or, if_true, if_false, reduceIte, zR_pE, zT_pE, zL_pE, zn_pE, zE_pE, zI_pE, zQ_pE, zJ_pE, zR_pI, zT_pI, zL_pI, zn_pI, zE_pI, zI_pI, zQ_pI, zJ_pI, zR_pR, zT_pR, zL_pR, zn_pR, zE_pR, zI_pR, zQ_pR, zJ_pR, zR_pJ, zT_pJ, zL_pJ, zn_pJ, zE_pJ, zI_pJ, zQ_pJ, zJ_pJ, t1, t3, u1, u2, a1, a2, b1, b2, b3, n8, g8, l8, e1, dm, nv, gv, lv, qv]
end Walk
theorem zp0 (a : Nat) : nI a + (0 : Int32) = nI a := zi_add a 0
theorem zp2 (a : Nat) : nI a + (2 : Int32) = nI (a + 2) := zi_add a 2
theorem zp4 (a : Nat) : nI a + (4 : Int32) = nI (a + 4) := zi_add a 4
theorem zp6 (a : Nat) : nI a + (6 : Int32) = nI (a + 6) := zi_add a 6
theorem zm8 (a : Nat) : nI a * (8 : Int32) = nI (8 * a) := by rw [show (8 : Int32) = nI 8 from rfl, zi_mul, Nat.mul_comm]
theorem c_want {h : Hp} {w num : Nat} (t : wfT h w num) (k a b : Int32) : f_X9_want w k a b h = some (k, pI (pI h 1012 w a) 1013 w b) := by
  obtain ⟨⟨a1, -⟩, -⟩ := t
  simp only [f_X9_want, o10, o00, bh, isO, inR, ck_true, bind_some9, Nat.reduceLeDiff, Nat.reduceEqDiff, and_self, and_true, true_and, false_and, and_false, not_false_eq_true, not_true_eq_false, or_self, or_false, false_or, if_true, if_false, reduceIte, zR_pE, zT_pE, zL_pE, zn_pE, zE_pE, zI_pE, zQ_pE, zJ_pE, zR_pI, zT_pI, zL_pI, zn_pI, zE_pI, zI_pI, zQ_pI, zJ_pI, zR_pR, zT_pR, zL_pR, zn_pR, zE_pR, zI_pR, zQ_pR, zJ_pR, zR_pJ, zT_pJ, zL_pJ, zn_pJ, zE_pJ, zI_pJ, zQ_pJ, zJ_pJ, a1]
theorem wkD.want {h : Hp} {w : Nat} {W : Wkr} (q : wkD h w W) (a b : Int32) : wkD (pI (pI h 1012 w a) 1013 w b) w W := by
  obtain ⟨q0, q1, q2, q3, q4, q5, q6, q7⟩ := q
  refine ⟨q0, ?_, ?_, ?_, ?_, ?_, ?_, ?_⟩
  all_goals (rw [zI_pI, if_neg (by omega), zI_pI, if_neg (by omega)]; assumption)
theorem cf_want {h : Hp} {w : Nat} (a b : Int32) : cf (wkX w) h (pI (pI h 1012 w a) 1013 w b) := (cf_pI (Or.inl ⟨rfl, by omega, by omega⟩)).tr (cf_pI (Or.inl ⟨rfl, by omega, by omega⟩))
/-- what is wanted stands in the heap -/
def wantC (h : Hp) (w : Nat) (k : Option (Nat × Int32 × Int32)) (r : Int32) : Prop := match k with
  | none => r = -1
  | some (k, a, b) => r = nI k ∧ zI h 1012 w = a ∧ zI h 1013 w = b
section Wish
variable {h : Hp} {w num : Nat} {W : Wkr} {P : Prg} {es : List Evt}
theorem c_hasKin (t : wfT h w num) (q : wkD h w W) (hq : hsD h w es) (hl : 0 < es.length) (hC : wkC W < 1000) (x : Int32) : f_X9_hasKin w x h = some (if hasKin (rpO es) W x = true then 1 else 0, h) := by
  obtain ⟨⟨t1, t2, t3, t4, t5⟩, -, ⟨c1, c2, c3, c4, c5⟩, ⟨d1, d2, d3, d4⟩, ⟨e1, e2, e3, e4⟩, -⟩ := id t
  have o6 : zE h (w + 6) (0 : Int32).toNatClampNeg = rpO es := (hq.at hl).2.2.2
  have q6 := q.2.2.2.2.2.2.1
  have i0 : inR (0 : Int32) 60 := by decide
  unfold hasKin
  by_cases cm : x = -1
  · rw [if_pos cm]
    unfold f_X9_hasKin
    rw [if_pos cm, ck_yes t1, t4, ck_yes c1, c5, ck_yes d4, e4, ck_yes i0, o6]
    by_cases co : rpO es < 0
    · rw [if_neg (Int32.not_le.mpr co), decide_eq_true co]; rfl
    · rw [if_pos (Int32.not_lt.mp co), decide_eq_false co]; rfl
  · rw [if_neg cm]
    unfold f_X9_hasKin
    rw [if_neg cm]
    by_cases cx : x < 0
    · rw [if_pos cx, decide_eq_false (Int32.not_le.mpr cx), Bool.false_and]; rfl
    · rw [if_neg cx, ck_yes t1, q6, decide_eq_true (Int32.not_lt.mp cx), Bool.true_and]
      show (if nI (wkC W) ≤ x then _ else _) = _
      by_cases cy : nI (wkC W) ≤ x
      · rw [if_pos cy, decide_eq_false (show ¬ x < Int32.ofNat (wkC W) from Int32.not_lt.mpr cy)]; rfl
      · rw [if_neg cy, decide_eq_true (show x < Int32.ofNat (wkC W) from Int32.not_le.mp cy)]; rfl
theorem c_wish (t : wfT h w num) (q : wkD h w W) (hq : hsD h w es) (hl : 0 < es.length) (g : pgC h w P) (hP : prgOK P) (hS : wkS W ≤ P.length) (hN : wkN W ≤ 1000) (hC : wkC W < 1000) (now : Int32) : ∃ r h1, f_X9_wish w now h = some (r, h1) ∧ wantC h1 w (wkWish P (rpO es) now W) r ∧ (wkWish P (rpO es) now W = none → h1 = h) ∧ wkD h1 w W ∧ cf (wkX w) h h1 ∧ nz h h1 := by
  have g9 := g
  obtain ⟨p, c, ⟨a1, a2, a3⟩, ⟨b1, b2, b3⟩, -, d⟩ := g
  obtain ⟨⟨t1, t2, t3, t4, t5⟩, -⟩ := id t
  have p60 := hP.1
  have q1 := q.2.1
  have q2 := q.2.2.1
  have k1 : nI (wkS W) < nI P.length ↔ wkS W < P.length := zi_lt (by omega) (by omega)
  have k2 : nI (wkN W) < (200 : Int32) ↔ wkN W < 200 := zi_lt (b := 200) (by omega) (by omega)
  have got : ∀ (r : Nat) (a b : Int32), f_X9_wish w now h = some (nI r, pI (pI h 1012 w a) 1013 w b) → wkWish P (rpO es) now W = some (r, a, b) → ∃ r h1, f_X9_wish w now h = some (r, h1) ∧ wantC h1 w (wkWish P (rpO es) now W) r ∧ (wkWish P (rpO es) now W = none → h1 = h) ∧ wkD h1 w W ∧ cf (wkX w) h h1 ∧ nz h h1 := fun r a b e1 e2 => by
    refine ⟨nI r, _, e1, ?_, (fun z => by rw [e2] at z; cases z), q.want a b, cf_want a b, rfl⟩
    rw [e2]
    exact ⟨rfl, by rw [zI_pI, if_neg (by omega), zI_pI, if_pos ⟨rfl, rfl⟩], by rw [zI_pI, if_pos ⟨rfl, rfl⟩]⟩
  have non : f_X9_wish w now h = some (-1, h) → wkWish P (rpO es) now W = none → ∃ r h1, f_X9_wish w now h = some (r, h1) ∧ wantC h1 w (wkWish P (rpO es) now W) r ∧ (wkWish P (rpO es) now W = none → h1 = h) ∧ wkD h1 w W ∧ cf (wkX w) h h1 ∧ nz h h1 := fun e1 e2 => ⟨-1, h, e1, by rw [e2]; rfl, fun _ => rfl, q, cf.rf h, rfl⟩
  by_cases cS : wkS W < P.length
  · have dS := eq_true (k1.mpr cS)
    by_cases cN : wkN W < 200
    · have dN := eq_true (k2.mpr cN)
      obtain ⟨v1, v2, -⟩ := hP.2 _ cS
      have ex := c_value t q g9 p60 cS (o := 4) (Or.inl ⟨rfl, rfl⟩) v1
      have ey := c_value t q g9 p60 cS (o := 6) (Or.inr ⟨rfl, rfl⟩) v2
      obtain ⟨dL, -, dD, -⟩ := d _ cS
      have n0 : (nI (8 * wkS W)).toNatClampNeg = 8 * wkS W := zi_nat (by omega)
      have g0 : ¬ nI (8 * wkS W) < 0 := zi_neg (by omega)
      have l0 : ¬ 8 * P.length ≤ 8 * wkS W := by omega
      have n2 : (nI (8 * wkS W + 2)).toNatClampNeg = 8 * wkS W + 2 := zi_nat (by omega)
      have g2 : ¬ nI (8 * wkS W + 2) < 0 := zi_neg (by omega)
      have l2 : ¬ 8 * P.length ≤ 8 * wkS W + 2 := by omega
      have eM : wkWish P (rpO es) now W = (if (stpAt P (wkS W)).1 = 65 then some (1, (stpAt P (wkS W)).2.2.1, valOf (wkV W) (stpAt P (wkS W)).2.2.2.1)
        else if (stpAt P (wkS W)).1 = 84 then some (4, now + (if valOf (wkV W) (stpAt P (wkS W)).2.2.2.1 < 0 then 0 else valOf (wkV W) (stpAt P (wkS W)).2.2.2.1), 0)
        else if (stpAt P (wkS W)).1 = 67 then some (6, (stpAt P (wkS W)).2.2.1, valOf (wkV W) (stpAt P (wkS W)).2.2.2.1)
        else if (stpAt P (wkS W)).1 = 83 then (if hasKin (rpO es) W (valOf (wkV W) (stpAt P (wkS W)).2.2.2.1) then some (9, valOf (wkV W) (stpAt P (wkS W)).2.2.2.1, valOf (wkV W) (stpAt P (wkS W)).2.2.2.2) else none)
        else if (stpAt P (wkS W)).1 = 69 then some (10, valOf (wkV W) (stpAt P (wkS W)).2.2.2.1, 0)
        else none) := by
        unfold wkWish
        rw [if_neg (by omega), if_neg (by omega)]
      have eK := c_hasKin t q hq hl hC (valOf (wkV W) (stpAt P (wkS W)).2.2.2.1)
      generalize valOf (wkV W) (stpAt P (wkS W)).2.2.2.1 = x at *
      generalize valOf (wkV W) (stpAt P (wkS W)).2.2.2.2 = y at *
      generalize (stpAt P (wkS W)).2.2.1 = dg at *
      generalize (stpAt P (wkS W)).1 = L at *
      by_cases c65 : L = 65
      · rw [c65] at dL eM
        have e1 : f_X9_wish w now h = some (nI 1, pI (pI h 1012 w dg) 1013 w x) := by
          have ew := c_want t 1 dg x
          simp only [f_X9_wish, o10, o00, bh, isO, inR, ck_true, bind_some9, Nat.reduceLeDiff, Nat.reduceEqDiff, and_self, and_true, true_and, false_and, and_false, not_false_eq_true, not_true_eq_false, or_self, or_false, false_or, if_true, if_false, reduceIte, zR_pE, zT_pE, zL_pE, zn_pE, zE_pE, zI_pE, zQ_pE, zJ_pE, zR_pI, zT_pI, zL_pI, zn_pI, zE_pI, zI_pI, zQ_pI, zJ_pI, zR_pR, zT_pR, zL_pR, zn_pR, zE_pR, zI_pR, zQ_pR, zJ_pR, zR_pJ, zT_pJ, zL_pJ, zn_pJ, zE_pJ, zI_pJ, zQ_pJ, zJ_pJ, t1, a1, a2, q1, a3, dS, q2, dN, zm8, zp4, zp0, zp2, ex, b1, b2, b3, n0, g0, l0, dL, n2, g2, l2, dD, ew]
          rfl
        exact got 1 dg x e1 (by rw [eM, if_pos rfl])
      · have d65 := eq_false c65
        by_cases c67 : L = 67
        · rw [c67] at dL eM
          have e1 : f_X9_wish w now h = some (nI 6, pI (pI h 1012 w dg) 1013 w x) := by
            have ew := c_want t 6 dg x
            have d1 : ((67 : Int32) = 65) = False := eq_false (by decide)
            simp only [f_X9_wish, o10, o00, bh, isO, inR, ck_true, bind_some9, Nat.reduceLeDiff, Nat.reduceEqDiff, and_self, and_true, true_and, false_and, and_false, not_false_eq_true, not_true_eq_false, or_self, or_false, false_or, if_true, if_false, reduceIte, zR_pE, zT_pE, zL_pE, zn_pE, zE_pE, zI_pE, zQ_pE, zJ_pE, zR_pI, zT_pI, zL_pI, zn_pI, zE_pI, zI_pI, zQ_pI, zJ_pI, zR_pR, zT_pR, zL_pR, zn_pR, zE_pR, zI_pR, zQ_pR, zJ_pR, zR_pJ, zT_pJ, zL_pJ, zn_pJ, zE_pJ, zI_pJ, zQ_pJ, zJ_pJ, t1, a1, a2, q1, a3, dS, q2, dN, zm8, zp4, zp0, zp2, ex, b1, b2, b3, n0, g0, l0, dL, n2, g2, l2, dD, d1, ew]
            rfl
          exact got 6 dg x e1 (by rw [eM, if_neg (by decide), if_neg (by decide), if_pos rfl])
        · have d67 := eq_false c67
          by_cases c69 : L = 69
          · rw [c69] at dL eM
            have e1 : f_X9_wish w now h = some (nI 10, pI (pI h 1012 w x) 1013 w 0) := by
              have ew := c_want t 10 x 0
              have d1 : ((69 : Int32) = 65) = False := eq_false (by decide)
              have d2 : ((69 : Int32) = 67) = False := eq_false (by decide)
              simp only [f_X9_wish, o10, o00, bh, isO, inR, ck_true, bind_some9, Nat.reduceLeDiff, Nat.reduceEqDiff, and_self, and_true, true_and, false_and, and_false, not_false_eq_true, not_true_eq_false, or_self, or_false, false_or, if_true, if_false, reduceIte, zR_pE, zT_pE, zL_pE, zn_pE, zE_pE, zI_pE, zQ_pE, zJ_pE, zR_pI, zT_pI, zL_pI, zn_pI, zE_pI, zI_pI, zQ_pI, zJ_pI, zR_pR, zT_pR, zL_pR, zn_pR, zE_pR, zI_pR, zQ_pR, zJ_pR, zR_pJ, zT_pJ, zL_pJ, zn_pJ, zE_pJ, zI_pJ, zQ_pJ, zJ_pJ, t1, a1, a2, q1, a3, dS, q2, dN, zm8, zp4, zp0, zp2, ex, b1, b2, b3, n0, g0, l0, dL, d1, d2, ew]
              rfl
            exact got 10 x 0 e1 (by rw [eM, if_neg (by decide), if_neg (by decide), if_neg (by decide), if_neg (by decide), if_pos rfl])
          · have d69 := eq_false c69
            by_cases c83 : L = 83
            · rw [c83] at dL eM
              have d1 : ((83 : Int32) = 65) = False := eq_false (by decide)
              have d2 : ((83 : Int32) = 67) = False := eq_false (by decide)
              have d3 : ((83 : Int32) = 69) = False := eq_false (by decide)
              by_cases ck9 : hasKin (rpO es) W x = true
              · rw [if_pos ck9] at eK
                have e1 : f_X9_wish w now h = some (nI 9, pI (pI h 1012 w x) 1013 w y) := by
                  have ew := c_want t 9 x y
                  simp only [f_X9_wish, o10, o00, bh, isO, inR, ck_true, bind_some9, Nat.reduceLeDiff, Nat.reduceEqDiff, and_self, and_true, true_and, false_and, and_false, not_false_eq_true, not_true_eq_false, or_self, or_false, false_or, if_true, if_false, reduceIte, zR_pE, zT_pE, zL_pE, zn_pE, zE_pE, zI_pE, zQ_pE, zJ_pE, zR_pI, zT_pI, zL_pI, zn_pI, zE_pI, zI_pI, zQ_pI, zJ_pI, zR_pR, zT_pR, zL_pR, zn_pR, zE_pR, zI_pR, zQ_pR, zJ_pR, zR_pJ, zT_pJ, zL_pJ, zn_pJ, zE_pJ, zI_pJ, zQ_pJ, zJ_pJ, t1, a1, a2, q1, a3, dS, q2, dN, zm8, zp4, zp0, zp2, zp6, ex, b1, b2, b3, n0, g0, l0, dL, d1, d2, d3, eK, ey, ew]
                  rfl
                exact got 9 x y e1 (by rw [eM, if_neg (by decide), if_neg (by decide), if_neg (by decide), if_pos rfl, if_pos ck9])
              · rw [if_neg ck9] at eK
                refine non ?_ (by rw [eM, if_neg (by decide), if_neg (by decide), if_neg (by decide), if_pos rfl, if_neg ck9])
                simp only [f_X9_wish, o10, o00, bh, isO, inR, ck_true, bind_some9, Nat.reduceLeDiff, Nat.reduceEqDiff, and_self, and_true, true_and, false_and, and_false, not_false_eq_true, not_true_eq_false, or_self, or_false, false_or, if_true, if_false, reduceIte, zR_pE, zT_pE, zL_pE, zn_pE, zE_pE, zI_pE, zQ_pE, zJ_pE, zR_pI, zT_pI, zL_pI, zn_pI, zE_pI, zI_pI, zQ_pI, zJ_pI, zR_pR, zT_pR, zL_pR, zn_pR, zE_pR, zI_pR, zQ_pR, zJ_pR, zR_pJ, zT_pJ, zL_pJ, zn_pJ, zE_pJ, zI_pJ, zQ_pJ, zJ_pJ, t1, a1, a2, q1, a3, dS, q2, dN, zm8, zp4, zp0, zp2, zp6, ex, b1, b2, b3, n0, g0, l0, dL, d1, d2, d3, eK]
            · have d83 := eq_false c83
              by_cases c84 : L = 84
              · rw [c84] at dL eM
                have d1 : ((84 : Int32) = 65) = False := eq_false (by decide)
                have d2 : ((84 : Int32) = 67) = False := eq_false (by decide)
                have d3 : ((84 : Int32) = 69) = False := eq_false (by decide)
                have d4 : ((84 : Int32) = 83) = False := eq_false (by decide)
                have e1 : f_X9_wish w now h = some (nI 4, pI (pI h 1012 w (now + if x < 0 then 0 else x)) 1013 w 0) := by
                  have ew := c_want t 4 (now + if x < 0 then 0 else x) 0
                  simp only [f_X9_wish, o10, o00, bh, isO, inR, ck_true, bind_some9, Nat.reduceLeDiff, Nat.reduceEqDiff, and_self, and_true, true_and, false_and, and_false, not_false_eq_true, not_true_eq_false, or_self, or_false, false_or, if_true, if_false, reduceIte, zR_pE, zT_pE, zL_pE, zn_pE, zE_pE, zI_pE, zQ_pE, zJ_pE, zR_pI, zT_pI, zL_pI, zn_pI, zE_pI, zI_pI, zQ_pI, zJ_pI, zR_pR, zT_pR, zL_pR, zn_pR, zE_pR, zI_pR, zQ_pR, zJ_pR, zR_pJ, zT_pJ, zL_pJ, zn_pJ, zE_pJ, zI_pJ, zQ_pJ, zJ_pJ, t1, a1, a2, q1, a3, dS, q2, dN, zm8, zp4, zp0, zp2, ex, b1, b2, b3, n0, g0, l0, dL, d1, d2, d3, d4, ew]
                  rfl
                exact got 4 _ 0 e1 (by rw [eM, if_neg (by decide), if_pos rfl])
              · have d84 := eq_false c84
                refine non ?_ (by rw [eM, if_neg c65, if_neg c84, if_neg c67, if_neg c83, if_neg c69])
                simp only [f_X9_wish, o10, o00, bh, isO, inR, ck_true, bind_some9, Nat.reduceLeDiff, Nat.reduceEqDiff, and_self, and_true, true_and, false_and, and_false, not_false_eq_true, not_true_eq_false, or_self, or_false, false_or, if_true, if_false, reduceIte, zR_pE, zT_pE, zL_pE, zn_pE, zE_pE, zI_pE, zQ_pE, zJ_pE, zR_pI, zT_pI, zL_pI, zn_pI, zE_pI, zI_pI, zQ_pI, zJ_pI, zR_pR, zT_pR, zL_pR, zn_pR, zE_pR, zI_pR, zQ_pR, zJ_pR, zR_pJ, zT_pJ, zL_pJ, zn_pJ, zE_pJ, zI_pJ, zQ_pJ, zJ_pJ, t1, a1, a2, q1, a3, dS, q2, dN, zm8, zp4, zp0, zp2, ex, b1, b2, b3, n0, g0, l0, dL, d65, d67, d69, d83, d84]
    · have dN := eq_false (fun z => cN (k2.mp z))
      have e1 : f_X9_wish w now h = some (nI 12, pI (pI h 1012 w (-1)) 1013 w 0) := by
        have ew := c_want t 12 (-1) 0
        simp only [f_X9_wish, o10, o00, bh, isO, inR, ck_true, bind_some9, Nat.reduceLeDiff, Nat.reduceEqDiff, and_self, and_true, true_and, false_and, and_false, not_false_eq_true, not_true_eq_false, or_self, or_false, false_or, if_true, if_false, reduceIte, zR_pE, zT_pE, zL_pE, zn_pE, zE_pE, zI_pE, zQ_pE, zJ_pE, zR_pI, zT_pI, zL_pI, zn_pI, zE_pI, zI_pI, zQ_pI, zJ_pI, zR_pR, zT_pR, zL_pR, zn_pR, zE_pR, zI_pR, zQ_pR, zJ_pR, zR_pJ, zT_pJ, zL_pJ, zn_pJ, zE_pJ, zI_pJ, zQ_pJ, zJ_pJ, t1, a1, a2, q1, a3, dS, q2, dN, ew]
        rfl
      exact got 12 (-1) 0 e1 (by unfold wkWish; rw [if_neg (by omega), if_pos (by omega)])
  · have dS := eq_false (fun z => cS (k1.mp z))
    have e1 : f_X9_wish w now h = some (nI 10, pI (pI h 1012 w 0) 1013 w 0) := by
      have ew := c_want t 10 0 0
      simp only [f_X9_wish, o10, o00, bh, isO, inR, ck_true, bind_some9, Nat.reduceLeDiff, Nat.reduceEqDiff, and_self, and_true, true_and, false_and, and_false, not_false_eq_true, not_true_eq_false, or_self, or_false, false_or, if_true, if_false, reduceIte, zR_pE, zT_pE, zL_pE, zn_pE, zE_pE, zI_pE, zQ_pE, zJ_pE, zR_pI, zT_pI, zL_pI, zn_pI, zE_pI, zI_pI, zQ_pI, zJ_pI, zR_pR, zT_pR, zL_pR, zn_pR, zE_pR, zI_pR, zQ_pR, zJ_pR, zR_pJ, zT_pJ, zL_pJ, zn_pJ, zE_pJ, zI_pJ, zQ_pJ, zJ_pJ, t1, a1, a2, q1, a3, dS, ew]
      rfl
    exact got 10 0 0 e1 (by unfold wkWish; rw [if_pos (by omega)])
end Wish
section Walk2
variable {h : Hp} {w num : Nat} {W : Wkr} {P : Prg} {es : List Evt}
theorem c_reckon (o x y : Int32) (h : Hp) : f_X9_reckon o x y h = some (reckon o x y, h) := by
  unfold f_X9_reckon reckon
  by_cases c45 : o = 45
  · rw [c45, if_neg (by decide), if_pos rfl, if_pos rfl]
  · rw [if_neg c45, if_neg c45]
    by_cases c42 : o = 42
    · rw [if_pos c42, if_pos c42]
    · rw [if_neg c42, if_neg c42]
      by_cases c60 : o = 60
      · rw [if_pos c60, if_pos c60]
        by_cases c : x < y
        · rw [if_neg (Int32.not_le.mpr c), if_pos c]
        · rw [if_pos (Int32.not_lt.mp c), if_neg c]
      · rw [if_neg c60, if_neg c60]
        by_cases c61 : o = 61
        · rw [if_pos c61, if_pos c61]
          split <;> rfl
        · rw [if_neg c61, if_neg c61]
theorem c_walk (t : wfT h w num) (q : wkD h w W) (hq : hsD h w es) (ko : kOK es) (g : pgC h w P) (hP : prgOK P) (hS : wkS W < P.length) (hT : wkT W < 1000) (hC : wkC W < 1000) (hne : (stpAt P (wkS W)).1 ≠ 84 ∧ (stpAt P (wkS W)).1 ≠ 69) : ∃ h1, f_X9_walk w h = some h1 ∧ wkD h1 w (wkWalk P es W) ∧ cf (wkX w) h h1 ∧ nz h h1 := by
  have g9 := g
  have hes := hq.1.2
  obtain ⟨p, c, ⟨a1, a2, a3⟩, ⟨b1, b2, b3⟩, -, d⟩ := g
  obtain ⟨⟨t1, t2, t3, t4, t5⟩, -, ⟨c1, c2, c3, c4, c5⟩, ⟨d1, d2, d3, d4⟩, ⟨e1, e2, e3, e4⟩, -⟩ := id t
  have p60 := hP.1
  have q1 := q.2.1
  have q5 := q.2.2.2.2.2.1
  have q6 := q.2.2.2.2.2.2.1
  obtain ⟨v1, v2, hkind⟩ := hP.2 _ hS
  have ex := c_value t q g9 p60 hS (o := 4) (Or.inl ⟨rfl, rfl⟩) v1
  have ey := c_value t q g9 p60 hS (o := 6) (Or.inr ⟨rfl, rfl⟩) v2
  obtain ⟨dL, dG, -⟩ := d _ hS
  have n0 : (nI (8 * wkS W)).toNatClampNeg = 8 * wkS W := zi_nat (by omega)
  have g0 : ¬ nI (8 * wkS W) < 0 := zi_neg (by omega)
  have l0 : ¬ 8 * P.length ≤ 8 * wkS W := by omega
  have n1 : (nI (8 * wkS W + 1)).toNatClampNeg = 8 * wkS W + 1 := zi_nat (by omega)
  have g1 : ¬ nI (8 * wkS W + 1) < 0 := zi_neg (by omega)
  have l1 : ¬ 8 * P.length ≤ 8 * wkS W + 1 := by omega
  have fg : ∀ (U : Wkr) (g : Hp), wkS U = wkS W → stSets (stpAt P (wkS W)).1 → (wkS U < P.length → ∃ v, v < 8 ∧ (stpAt P (wkS U)).2.1 = nI v) := fun U g eU sS _ => by
    rw [eU]
    rcases hkind with ⟨-, z⟩ | ⟨z, -⟩ | z
    · exact z
    · unfold stSets at sS
      rcases z with z | z <;> rw [z] at sS <;> exact absurd sS (by decide)
    · unfold stSets at sS
      rcases z with z | z | z <;> rw [z] at sS <;> exact absurd sS (by decide)
  have hgoal : ((stpAt P (wkS W)).1 = 71 ∨ (stpAt P (wkS W)).1 = 73) → ∃ gg, gg ≤ P.length ∧ (stpAt P (wkS W)).2.1 = nI gg := fun z => by
    rcases hkind with ⟨y, -⟩ | ⟨-, y⟩ | y
    · unfold stSets at y
      rcases z with z | z <;> rw [z] at y <;> exact absurd y (by decide)
    · exact y
    · rcases z with z | z <;> rw [z] at y <;> exact absurd y (by decide)
  have eM : wkWalk P es W = (if (stpAt P (wkS W)).1 = 71 then wkLeave W (stpAt P (wkS W)).2.1.toNatClampNeg
    else if (stpAt P (wkS W)).1 = 73 then wkLeave W (if valOf (wkV W) (stpAt P (wkS W)).2.2.2.1 ≠ 0 then (stpAt P (wkS W)).2.1.toNatClampNeg else wkS W + 1)
    else if (stpAt P (wkS W)).1 = 83 then wkLeave W (wkS W + 1)
    else if (stpAt P (wkS W)).1 = 87 then (match plcOf 8 es (wkT W) with
      | none => wkRest W 2 0
      | some k => wkSet P (wkTook W) (evAt es k).2.1)
    else if (stpAt P (wkS W)).1 = 74 then (if 0 ≤ valOf (wkV W) (stpAt P (wkS W)).2.2.2.1 ∧ valOf (wkV W) (stpAt P (wkS W)).2.2.2.1 < Int32.ofNat (wkC W) then (match endOf (valOf (wkV W) (stpAt P (wkS W)).2.2.2.1) es with
        | none => wkRest W 3 (valOf (wkV W) (stpAt P (wkS W)).2.2.2.1)
        | some k => wkSet P W (evAt es k).2.2.1) else wkSet P W (-1))
    else wkSet P W (reckon (stpAt P (wkS W)).1 (valOf (wkV W) (stpAt P (wkS W)).2.2.2.1) (valOf (wkV W) (stpAt P (wkS W)).2.2.2.2))) := rfl
  have fg2 := fg
  rw [eM]
  generalize valOf (wkV W) (stpAt P (wkS W)).2.2.2.1 = x at *
  generalize valOf (wkV W) (stpAt P (wkS W)).2.2.2.2 = y at *
  generalize hL : (stpAt P (wkS W)).1 = L at *
  by_cases c71 : L = 71
  · rw [if_pos c71]
    obtain ⟨gg, hgg, eg⟩ := hgoal (Or.inl c71)
    rw [eg] at dG
    rw [eg, zi_nat (by omega)]
    obtain ⟨h1, x1, x2, x3, x4⟩ := c_leave t q gg
    have d71 := eq_true c71
    refine ⟨h1, ?_, x2, x3, x4⟩
    simp only [f_X9_walk, o10, o00, bh, isO, inR, ck_true, bind_some9, Nat.reduceLeDiff, Nat.reduceEqDiff, and_self, and_true, true_and, false_and, and_false, not_false_eq_true, not_true_eq_false, or_self, or_false, false_or, if_true, if_false, reduceIte, zR_pE, zT_pE, zL_pE, zn_pE, zE_pE, zI_pE, zQ_pE, zJ_pE, zR_pI, zT_pI, zL_pI, zn_pI, zE_pI, zI_pI, zQ_pI, zJ_pI, zR_pR, zT_pR, zL_pR, zn_pR, zE_pR, zI_pR, zQ_pR, zJ_pR, zR_pJ, zT_pJ, zL_pJ, zn_pJ, zE_pJ, zI_pJ, zQ_pJ, zJ_pJ, t1, q1, zm8, zp4, zp0, zi_one, ex, a1, a2, b1, b2, b3, n0, g0, l0, dL, d71, n1, g1, l1, dG, x1]
  · rw [if_neg c71]
    have d71 := eq_false c71
    by_cases c73 : L = 73
    · rw [if_pos c73]
      have d73 := eq_true c73
      by_cases cx : x = 0
      · rw [if_neg (fun z => z cx)]
        have dx := eq_true cx
        obtain ⟨h1, x1, x2, x3, x4⟩ := c_leave t q (wkS W + 1)
        refine ⟨h1, ?_, x2, x3, x4⟩
        simp only [f_X9_walk, o10, o00, bh, isO, inR, ck_true, bind_some9, Nat.reduceLeDiff, Nat.reduceEqDiff, and_self, and_true, true_and, false_and, and_false, not_false_eq_true, not_true_eq_false, or_self, or_false, false_or, if_true, if_false, reduceIte, zR_pE, zT_pE, zL_pE, zn_pE, zE_pE, zI_pE, zQ_pE, zJ_pE, zR_pI, zT_pI, zL_pI, zn_pI, zE_pI, zI_pI, zQ_pI, zJ_pI, zR_pR, zT_pR, zL_pR, zn_pR, zE_pR, zI_pR, zQ_pR, zJ_pR, zR_pJ, zT_pJ, zL_pJ, zn_pJ, zE_pJ, zI_pJ, zQ_pJ, zJ_pJ, t1, q1, zm8, zp4, zp0, zi_one, ex, a1, a2, b1, b2, b3, n0, g0, l0, dL, d71, d73, dx, x1]
      · rw [if_pos cx]
        have dx := eq_false cx
        obtain ⟨gg, hgg, eg⟩ := hgoal (Or.inr c73)
        rw [eg] at dG
        rw [eg, zi_nat (by omega)]
        obtain ⟨h1, x1, x2, x3, x4⟩ := c_leave t q gg
        refine ⟨h1, ?_, x2, x3, x4⟩
        simp only [f_X9_walk, o10, o00, bh, isO, inR, ck_true, bind_some9, Nat.reduceLeDiff, Nat.reduceEqDiff, and_self, and_true, true_and, false_and, and_false, not_false_eq_true, not_true_eq_false, or_self, or_false, false_or, if_true, if_false, reduceIte, zR_pE, zT_pE, zL_pE, zn_pE, zE_pE, zI_pE, zQ_pE, zJ_pE, zR_pI, zT_pI, zL_pI, zn_pI, zE_pI, zI_pI, zQ_pI, zJ_pI, zR_pR, zT_pR, zL_pR, zn_pR, zE_pR, zI_pR, zQ_pR, zJ_pR, zR_pJ, zT_pJ, zL_pJ, zn_pJ, zE_pJ, zI_pJ, zQ_pJ, zJ_pJ, t1, q1, zm8, zp4, zp0, zi_one, ex, a1, a2, b1, b2, b3, n0, g0, l0, dL, d71, d73, dx, n1, g1, l1, dG, x1]
    · rw [if_neg c73]
      have d73 := eq_false c73
      by_cases c74 : L = 74
      · have c83 : ¬ L = 83 := by rw [c74]; decide
        have c87 : ¬ L = 87 := by rw [c74]; decide
        rw [if_neg c83, if_neg c87, if_pos c74]
        have d74 := eq_true c74
        have eE := c_endOf t hq ko x
        have sS : stSets L := by rw [c74]; unfold stSets; decide
        have lose : ∀ k9 : Int32, (x < 0 ∨ nI (wkC W) ≤ x) → ∃ h1, f_X9_walk_236 w x k9 h = some h1 ∧ wkD h1 w (wkSet P W (-1)) ∧ cf (wkX w) h h1 ∧ nz h h1 := fun k9 hx => by
          obtain ⟨h1, x1, x2, x3, x4⟩ := c_set t q g9 (by omega) p60 (fg W h rfl sS) (-1)
          refine ⟨h1, ?_, x2, x3, x4⟩
          unfold f_X9_walk_236
          by_cases c0 : x < 0
          · rw [if_pos c0, ck_yes t1, x1]; rfl
          · rw [if_neg c0, ck_yes t1, q6, if_pos (hx.resolve_left c0), x1]; rfl
        by_cases c0 : x < 0
        · have dx := eq_true c0
          rw [if_neg (fun z => absurd c0 (Int32.not_lt.mpr z.1))]
          obtain ⟨h1, x1, x2, x3, x4⟩ := lose (plI9 (endOf x es) 0) (Or.inl c0)
          refine ⟨h1, ?_, x2, x3, x4⟩
          simp only [f_X9_walk, o10, o00, bh, isO, inR, ck_true, bind_some9, Nat.reduceLeDiff, Nat.reduceEqDiff, and_self, and_true, true_and, false_and, and_false, not_false_eq_true, not_true_eq_false, or_self, or_false, false_or, if_true, if_false, reduceIte, zR_pE, zT_pE, zL_pE, zn_pE, zE_pE, zI_pE, zQ_pE, zJ_pE, zR_pI, zT_pI, zL_pI, zn_pI, zE_pI, zI_pI, zQ_pI, zJ_pI, zR_pR, zT_pR, zL_pR, zn_pR, zE_pR, zI_pR, zQ_pR, zJ_pR, zR_pJ, zT_pJ, zL_pJ, zn_pJ, zE_pJ, zI_pJ, zQ_pJ, zJ_pJ, t1, t4, c1, q1, zm8, zp4, zp0, zi_one, ex, a1, a2, b1, b2, b3, n0, g0, l0, dL, d71, d73, d74, eE, dx, x1]
        · have dx := eq_false c0
          by_cases cC : nI (wkC W) ≤ x
          · have dC := eq_true cC
            rw [if_neg (fun z => absurd z.2 (show ¬ x < nI (wkC W) from Int32.not_lt.mpr cC))]
            obtain ⟨h1, x1, x2, x3, x4⟩ := lose (plI9 (endOf x es) 0) (Or.inr cC)
            refine ⟨h1, ?_, x2, x3, x4⟩
            simp only [f_X9_walk, o10, o00, bh, isO, inR, ck_true, bind_some9, Nat.reduceLeDiff, Nat.reduceEqDiff, and_self, and_true, true_and, false_and, and_false, not_false_eq_true, not_true_eq_false, or_self, or_false, false_or, if_true, if_false, reduceIte, zR_pE, zT_pE, zL_pE, zn_pE, zE_pE, zI_pE, zQ_pE, zJ_pE, zR_pI, zT_pI, zL_pI, zn_pI, zE_pI, zI_pI, zQ_pI, zJ_pI, zR_pR, zT_pR, zL_pR, zn_pR, zE_pR, zI_pR, zQ_pR, zJ_pR, zR_pJ, zT_pJ, zL_pJ, zn_pJ, zE_pJ, zI_pJ, zQ_pJ, zJ_pJ, t1, t4, c1, q1, zm8, zp4, zp0, zi_one, ex, a1, a2, b1, b2, b3, n0, g0, l0, dL, d71, d73, d74, eE, dx, q6, dC, x1]
          · have dC := eq_false cC
            rw [if_pos ⟨Int32.not_lt.mp c0, Int32.not_le.mp cC⟩]
            cases hz : endOf x es with
            | none =>
              rw [hz] at eE
              obtain ⟨h1, x1, x2, x3, x4⟩ := c_rest t q 3 x
              have x1 : f_X9_rest w 3 x h = some h1 := x1
              refine ⟨h1, ?_, x2, x3, x4⟩
              have key : ∀ M1 : Int32, M1 = -1 → f_X1_endOfChild (w + 2) x h = some (M1, h) → f_X9_walk w h = some h1 := fun M1 hm1 eE => by
                have dm := eq_true hm1
                simp only [f_X9_walk, o10, o00, bh, isO, inR, ck_true, bind_some9, Nat.reduceLeDiff, Nat.reduceEqDiff, and_self, and_true, true_and, false_and, and_false, not_false_eq_true, not_true_eq_false, or_self, or_false, false_or, if_true, if_false, reduceIte, zR_pE, zT_pE, zL_pE, zn_pE, zE_pE, zI_pE, zQ_pE, zJ_pE, zR_pI, zT_pI, zL_pI, zn_pI, zE_pI, zI_pI, zQ_pI, zJ_pI, zR_pR, zT_pR, zL_pR, zn_pR, zE_pR, zI_pR, zQ_pR, zJ_pR, zR_pJ, zT_pJ, zL_pJ, zn_pJ, zE_pJ, zI_pJ, zQ_pJ, zJ_pJ, t1, t4, c1, q1, zm8, zp4, zp0, zi_one, ex, a1, a2, b1, b2, b3, n0, g0, l0, dL, d71, d73, d74, eE, dx, q6, dC, dm, x1]
              exact key _ rfl eE
            | some k =>
              rw [hz] at eE
              have hk := (endOf_lt hz).1
              have eE : f_X1_endOfChild (w + 2) x h = some (nI k, h) := by rw [eE]; show some (nI (0 + k), h) = _; rw [Nat.zero_add]
              have dk := eq_false (zi_ne1 (by omega : k < 2147483648))
              have nk : (nI k).toNatClampNeg = k := zi_nat (by omega)
              have gk : ¬ nI k < 0 := zi_neg (by omega)
              have lk : ¬ 60 ≤ k := by omega
              have e5 := (hq.at hk).2.2.1
              obtain ⟨h1, x1, x2, x3, x4⟩ := c_set t q g9 (by omega) p60 (fg W h rfl sS) (evAt es k).2.2.1
              refine ⟨h1, ?_, x2, x3, x4⟩
              simp only [f_X9_walk, f_X9_walk_236, o10, o00, bh, isO, inR, ck_true, bind_some9, Nat.reduceLeDiff, Nat.reduceEqDiff, and_self, and_true, true_and, false_and, and_false, not_false_eq_true, not_true_eq_false, or_self, or_false, false_or, if_true, if_false, reduceIte, zR_pE, zT_pE, zL_pE, zn_pE, zE_pE, zI_pE, zQ_pE, zJ_pE, zR_pI, zT_pI, zL_pI, zn_pI, zE_pI, zI_pI, zQ_pI, zJ_pI, zR_pR, zT_pR, zL_pR, zn_pR, zE_pR, zI_pR, zQ_pR, zJ_pR, zR_pJ, zT_pJ, zL_pJ, zn_pJ, zE_pJ, zI_pJ, zQ_pJ, zJ_pJ, t1, t4, c1, c4, d3, e3, q1, zm8, zp4, zp0, zi_one, ex, a1, a2, b1, b2, b3, n0, g0, l0, dL, d71, d73, d74, eE, dx, q6, dC, dk, nk, gk, lk, e5, x1]
      · have d74 := eq_false c74
        by_cases c83 : L = 83
        · rw [if_pos c83]
          have d83 := eq_true c83
          obtain ⟨h1, x1, x2, x3, x4⟩ := c_leave t q (wkS W + 1)
          refine ⟨h1, ?_, x2, x3, x4⟩
          simp only [f_X9_walk, o10, o00, bh, isO, inR, ck_true, bind_some9, Nat.reduceLeDiff, Nat.reduceEqDiff, and_self, and_true, true_and, false_and, and_false, not_false_eq_true, not_true_eq_false, or_self, or_false, false_or, if_true, if_false, reduceIte, zR_pE, zT_pE, zL_pE, zn_pE, zE_pE, zI_pE, zQ_pE, zJ_pE, zR_pI, zT_pI, zL_pI, zn_pI, zE_pI, zI_pI, zQ_pI, zJ_pI, zR_pR, zT_pR, zL_pR, zn_pR, zE_pR, zI_pR, zQ_pR, zJ_pR, zR_pJ, zT_pJ, zL_pJ, zn_pJ, zE_pJ, zI_pJ, zQ_pJ, zJ_pJ, t1, q1, zm8, zp4, zp0, zi_one, ex, a1, a2, b1, b2, b3, n0, g0, l0, dL, d71, d73, d74, d83, x1]
        · rw [if_neg c83]
          have d83 := eq_false c83
          by_cases c87 : L = 87
          · rw [if_pos c87]
            have d87 := eq_true c87
            have sS : stSets L := by rw [c87]; unfold stSets; decide
            have eP := c_placeOf t hq ko (k := 8) (by omega) hT
            have eP : f_X1_placeOf (w + 2) 8 (nI (wkT W)) h = some (plI9 (plcOf 8 es (wkT W)) 0, h) := eP
            cases hz : plcOf 8 es (wkT W) with
            | none =>
              rw [hz] at eP
              obtain ⟨h1, x1, x2, x3, x4⟩ := c_rest t q 2 0
              have x1 : f_X9_rest w 2 0 h = some h1 := x1
              refine ⟨h1, ?_, x2, x3, x4⟩
              have key : ∀ M1 : Int32, M1 = -1 → f_X1_placeOf (w + 2) 8 (nI (wkT W)) h = some (M1, h) → f_X9_walk w h = some h1 := fun M1 hm1 eP => by
                have dm := eq_true hm1
                simp only [f_X9_walk, o10, o00, bh, isO, inR, ck_true, bind_some9, Nat.reduceLeDiff, Nat.reduceEqDiff, and_self, and_true, true_and, false_and, and_false, not_false_eq_true, not_true_eq_false, or_self, or_false, false_or, if_true, if_false, reduceIte, zR_pE, zT_pE, zL_pE, zn_pE, zE_pE, zI_pE, zQ_pE, zJ_pE, zR_pI, zT_pI, zL_pI, zn_pI, zE_pI, zI_pI, zQ_pI, zJ_pI, zR_pR, zT_pR, zL_pR, zn_pR, zE_pR, zI_pR, zQ_pR, zJ_pR, zR_pJ, zT_pJ, zL_pJ, zn_pJ, zE_pJ, zI_pJ, zQ_pJ, zJ_pJ, t1, t4, c1, q1, q5, zm8, zp4, zp0, zi_one, ex, a1, a2, b1, b2, b3, n0, g0, l0, dL, d71, d73, d74, d83, d87, eP, dm, x1]
              exact key _ rfl eP
            | some k =>
              rw [hz] at eP
              have hk := (plc_in 8 hz).1
              have eP : f_X1_placeOf (w + 2) 8 (nI (wkT W)) h = some (nI k, h) := by rw [eP]; show some (nI (0 + k), h) = _; rw [Nat.zero_add]
              have dk := eq_false (zi_ne1 (by omega : k < 2147483648))
              have nk : (nI k).toNatClampNeg = k := zi_nat (by omega)
              have gk : ¬ nI k < 0 := zi_neg (by omega)
              have lk : ¬ 60 ≤ k := by omega
              have e4' := (hq.at hk).2.1
              have fT : cf (wkX w) h (pI h 1009 w (nI (wkT W + 1))) := cf_pI (Or.inl ⟨rfl, by omega, by omega⟩)
              have qT := c_took q
              obtain ⟨h1, x1, x2, x3, x4⟩ := c_set (t.wk fT) qT (g9.on t fT) (show wkS W < 100 by omega) p60 (fg (wkTook W) h rfl sS) (evAt es k).2.1
              refine ⟨h1, ?_, x2, fT.tr x3, x4⟩
              simp only [f_X9_walk, o10, o00, bh, isO, inR, ck_true, bind_some9, Nat.reduceLeDiff, Nat.reduceEqDiff, and_self, and_true, true_and, false_and, and_false, not_false_eq_true, not_true_eq_false, or_self, or_false, false_or, if_true, if_false, reduceIte, zR_pE, zT_pE, zL_pE, zn_pE, zE_pE, zI_pE, zQ_pE, zJ_pE, zR_pI, zT_pI, zL_pI, zn_pI, zE_pI, zI_pI, zQ_pI, zJ_pI, zR_pR, zT_pR, zL_pR, zn_pR, zE_pR, zI_pR, zQ_pR, zJ_pR, zR_pJ, zT_pJ, zL_pJ, zn_pJ, zE_pJ, zI_pJ, zQ_pJ, zJ_pJ, t1, t4, c1, c3, d2, e2, q1, q5, zm8, zp4, zp0, zi_one, ex, a1, a2, b1, b2, b3, n0, g0, l0, dL, d71, d73, d74, d83, d87, eP, dk, nk, gk, lk, e4', x1]
          · rw [if_neg c87, if_neg c74]
            have d87 := eq_false c87
            have sS : wkS W < P.length → ∃ v, v < 8 ∧ (stpAt P (wkS W)).2.1 = nI v := fun _ => by
              rcases hkind with ⟨-, z⟩ | ⟨z, -⟩ | z
              · exact z
              · rcases z with z | z
                · exact absurd z c71
                · exact absurd z c73
              · rcases z with z | z | z
                · exact absurd z hne.1
                · exact absurd z c83
                · exact absurd z hne.2
            obtain ⟨h1, x1, x2, x3, x4⟩ := c_set t q g9 (by omega) p60 sS (reckon L x y)
            refine ⟨h1, ?_, x2, x3, x4⟩
            have eR := c_reckon L x y h
            simp only [f_X9_walk, o10, o00, bh, isO, inR, ck_true, bind_some9, Nat.reduceLeDiff, Nat.reduceEqDiff, and_self, and_true, true_and, false_and, and_false, not_false_eq_true, not_true_eq_false, or_self, or_false, false_or, if_true, if_false, reduceIte, zR_pE, zT_pE, zL_pE, zn_pE, zE_pE, zI_pE, zQ_pE, zJ_pE, zR_pI, zT_pI, zL_pI, zn_pI, zE_pI, zI_pI, zQ_pI, zJ_pI, zR_pR, zT_pR, zL_pR, zn_pR, zE_pR, zI_pR, zQ_pR, zJ_pR, zR_pJ, zT_pJ, zL_pJ, zn_pJ, zE_pJ, zI_pJ, zQ_pJ, zJ_pJ, t1, q1, zm8, zp4, zp6, zp0, zi_one, ex, ey, a1, a2, b1, b2, b3, n0, g0, l0, dL, d71, d73, d74, d83, d87, eR, x1]
theorem wish_ne {o now : Int32} (hw : wkWish P o now W = none) : wkS W < P.length ∧ wkN W < 200 ∧ (stpAt P (wkS W)).1 ≠ 84 ∧ (stpAt P (wkS W)).1 ≠ 69 := by
  unfold wkWish at hw
  split at hw
  · cases hw
  · next c1 =>
    split at hw
    · cases hw
    · next c2 =>
      refine ⟨by omega, by omega, fun z => ?_, fun z => ?_⟩
      · simp only [z] at hw
        rw [if_neg (by decide), if_pos trivial] at hw
        cases hw
      · simp only [z] at hw
        rw [if_neg (by decide), if_neg (by decide), if_neg (by decide), if_neg (by decide), if_pos trivial] at hw
        cases hw
/-- it runs until it wants something, or waits, or has ended -/
theorem c_run_go (num : Nat) (hP : prgOK P) (hl : 0 < es.length) (ko : kOK es) (he60 : es.length ≤ 60) (now : Int32) : ∀ (m i fuel : Nat) (h : Hp) (W : Wkr), i + m = 201 → m < fuel → wfT h w num → wkD h w W → hsD h w es → pgC h w P → wkG P es W → ∃ r h1, f_X9_run_2 fuel w now (nI i) h = some (r, h1) ∧ wantC h1 w (wkRun P (rpO es) now es m W).1 r ∧ wkD h1 w (wkRun P (rpO es) now es m W).2 ∧ cf (wkX w) h h1 ∧ nz h h1
  | m, i, 0, h, W, _, hf, _, _, _, _, _ => absurd hf (Nat.not_lt_zero _)
  | 0, i, fuel + 1, h, W, hi, hf, t, q, hq, g, G => by
    have c : (200 : Int32) < nI i := (zi_lt (a := 200) (by omega) (by omega)).mpr (by omega)
    refine ⟨-1, h, ?_, rfl, q, cf.rf h, rfl⟩
    unfold f_X9_run_2
    rw [if_pos c]
  | m + 1, i, fuel + 1, h, W, hi, hf, t, q, hq, g, G => by
    have c : ¬ (200 : Int32) < nI i := fun z => absurd ((zi_lt (a := 200) (by omega) (by omega)).mp z) (by omega)
    obtain ⟨g1, g2, g3, g4, g5, -⟩ := id G
    have s60 := sigs_le es
    have t1 := t.1.1
    have q3 := q.2.2.2.1
    have k5 : nI (wkP W) = (5 : Int32) ↔ wkP W = 5 := zi_eq (b := 5) (by omega) (by omega)
    have pz : ¬ zR h 1004 w = 0 := by
      obtain ⟨p, cc, ⟨a1, a2, -⟩, -⟩ := g
      rw [a1]
      have := a2.1
      omega
    have eR : wkRun P (rpO es) now es (m + 1) W = if wkP W ≠ 5 then (none, W) else match wkWish P (rpO es) now W with
      | some k => (some k, W)
      | none => wkRun P (rpO es) now es m (wkWalk P es W) := rfl
    rw [eR]
    by_cases c5 : wkP W = 5
    · rw [if_neg (fun z => z c5)]
      obtain ⟨r, h1, x1, x2, x3, x4, x5, x6⟩ := c_wish t q hq hl g hP g1 (by omega) (by omega) now
      have red : f_X9_run_2 (fuel + 1) w now (nI i) h = (if r = -1 then ck (isO h1 w 10) ((f_X9_walk w h1).bind (fun q7 => bh (nI i + 1) (fun x9 => f_X9_run_2 fuel w now x9 q7))) else some (r, h1)) := by
        conv => lhs; unfold f_X9_run_2
        rw [if_neg c, ck_yes t1, if_pos (by rw [q3]; exact k5.mpr c5), if_neg pz, x1]
        rfl
      rw [red]
      cases hw : wkWish P (rpO es) now W with
      | some k =>
        obtain ⟨k, a, b⟩ := k
        rw [hw] at x2
        obtain ⟨y1, y2, y3⟩ := x2
        have kb : k < 13 := by
          by_cases c10 : k < 10
          · omega
          · unfold wkWish at hw
            split at hw
            · cases hw; omega
            · split at hw
              · cases hw; omega
              · simp only [] at hw
                repeat' split at hw
                all_goals first
                  | (cases hw; omega)
                  | (cases hw)
        refine ⟨r, h1, ?_, ⟨y1, y2, y3⟩, x4, x5, x6⟩
        rw [if_neg (by rw [y1]; exact zi_ne1 (by omega))]
      | none =>
        have e1 := x3 hw
        rw [hw] at x2
        have x2 : r = -1 := x2
        rw [e1]
        obtain ⟨w1, w2, w3⟩ := wish_ne hw
        obtain ⟨h2, y1, y2, y3, y4⟩ := c_walk t q hq ko g hP w1 (by omega) (by omega) w3
        have G2 : wkG P es (wkWalk P es W) := wkG_walk hP G c5 (by
          cases hz : wkWish P (rpO es) 0 W with
          | none => rfl
          | some k9 =>
            have := wkWish_now P (rpO es) 0 now W
            rw [hz, hw] at this
            cases this)
        obtain ⟨r3, h3, z1, z2, z3, z4, z5⟩ := c_run_go num hP hl ko he60 now m (i + 1) fuel h2 (wkWalk P es W) (by omega) (by omega) (t.wk y3) y2 (hq.wk t y3) (g.on t y3) G2
        refine ⟨r3, h3, ?_, z2, z3, y3.tr z4, y4.tr z5⟩
        rw [if_pos x2, ck_yes t1, y1, ← z1]
        show f_X9_run_2 fuel w now (nI i + 1) h2 = _
        rw [zi_one]
    · rw [if_pos c5]
      refine ⟨-1, h, ?_, rfl, q, cf.rf h, rfl⟩
      unfold f_X9_run_2
      rw [if_neg c, ck_yes t1, if_neg (by rw [q3]; exact fun z => c5 (k5.mp z))]
theorem c_run (t : wfT h w num) (q : wkD h w W) (hq : hsD h w es) (g : pgC h w P) (hP : prgOK P) (hl : 0 < es.length) (ko : kOK es) (G : wkG P es W) (now : Int32) : ∃ r h1, f_X9_run w now h = some (r, h1) ∧ wantC h1 w (wkRun P (rpO es) now es 201 W).1 r ∧ wkD h1 w (wkRun P (rpO es) now es 201 W).2 ∧ cf (wkX w) h h1 ∧ nz h h1 := c_run_go num hP hl ko hq.1.2 now 201 0 fz h W (by omega) (fz_big (by omega)) t q hq g G
/-! an event is taken -/
def tkX (w a j : Nat) : Prop := wkX w a j ∨ hsX w a j ∨ a = w + 7
end Walk2
theorem wfT.tk {h h1 : Hp} {w num : Nat} (t : wfT h w num) (f : cf (tkX w) h h1) : wfT h1 w num := t.on f (fun j _ _ => by unfold tkX wkX hsX; omega) (fun j _ _ => by unfold tkX wkX hsX; omega)
theorem pgC.tk {h h1 : Hp} {w : Nat} {P : Prg} {num : Nat} (g : pgC h w P) (t : wfT h w num) (f : cf (tkX w) h h1) (hn : ∀ p, (zR h 1004 w = p ∨ zR h 501 (zR h 1004 w) = p) → ¬ (w ≤ p ∧ p ≤ w + 7)) : pgC h1 w P := by
  obtain ⟨p, c, ⟨a1, a2, a3⟩, ⟨b1, b2, b3⟩, ⟨n1, n2, n3, n4⟩, d⟩ := g
  have hp := hn p (Or.inl a1)
  have hc := hn c (Or.inr (by rw [a1]; exact b1))
  refine ⟨p, c, ⟨(f.R t.1.1 (by unfold tkX wkX hsX; omega)).trans a1, f.O a2, (f.I a2 (by unfold tkX wkX hsX; omega)).trans a3⟩, ⟨(f.R a2 (by unfold tkX wkX hsX; omega)).trans b1, f.O b2, (f.L b2).trans b3⟩, ⟨n1, n2, n3, n4⟩, fun j hj => ?_⟩
  have z : ∀ i, zE h1 c i = zE h c i := fun i => f.E b2 (by unfold tkX wkX hsX; omega)
  rw [z, z, z, z, z, z, z]
  exact d j hj
section Take
variable {h : Hp} {w num : Nat} {f : Flw}
theorem tk_free {k : Tsk} (q : tkD h w k) : tkD (pI h 904 (w + 7) 0) w (tkFree k) := by
  obtain ⟨q1, q2, q3, q4, q5, q6⟩ := q
  refine ⟨?_, ?_, ?_, ?_, ?_, ?_⟩
  · rw [zI_pI, if_neg (by omega)]; exact q1
  · rw [zI_pI, if_neg (by omega)]; exact q2
  · rw [zI_pI, if_neg (by omega)]; exact q3
  · rw [zI_pI, if_neg (by omega)]; exact q4
  · rw [zI_pI, if_pos ⟨rfl, rfl⟩]; rfl
  · rw [zI_pI, if_neg (by omega)]; exact q6
theorem wkD.t0 {W : Wkr} (q : wkD h w W) : wkD (pI h 904 (w + 7) 0) w W := by
  obtain ⟨q0, q1, q2, q3, q4, q5, q6, q7⟩ := q
  refine ⟨q0, ?_, ?_, ?_, ?_, ?_, ?_, ?_⟩
  all_goals (rw [zI_pI, if_neg (by omega)]; assumption)
theorem c_opens {k : Tsk} (t : wfT h w num) (q : tkD h w k) (a b now : Int32) : ∃ h1, f_X8_open (w + 7) a b now h = some h1 ∧ tkD h1 w (tkOpen k a b now) ∧ cf (fun x _ => x = w + 7) h h1 ∧ nz h h1 := by
  obtain ⟨-, -, -, -, -, g⟩ := t
  obtain ⟨q1, q2, q3, q4, q5, q6⟩ := q
  refine ⟨pI (pI (pI (pI (pI h 900 (w + 7) a) 901 (w + 7) b) 902 (w + 7) 1) 903 (w + 7) now) 904 (w + 7) 0, ?_, ⟨?_, ?_, ?_, ?_, ?_, ?_⟩, ((((cf_pI (S := fun x _ => x = w + 7) rfl).tr (cf_pI (S := fun x _ => x = w + 7) rfl)).tr (cf_pI (S := fun x _ => x = w + 7) rfl)).tr (cf_pI (S := fun x _ => x = w + 7) rfl)).tr (cf_pI (S := fun x _ => x = w + 7) rfl), rfl⟩
  · simp only [f_X8_open, o10, o00, bh, isO, inR, ck_true, bind_some9, Nat.reduceLeDiff, Nat.reduceEqDiff, and_self, and_true, true_and, false_and, and_false, not_false_eq_true, not_true_eq_false, or_self, or_false, false_or, if_true, if_false, reduceIte, zR_pE, zT_pE, zL_pE, zn_pE, zE_pE, zI_pE, zQ_pE, zJ_pE, zR_pI, zT_pI, zL_pI, zn_pI, zE_pI, zI_pI, zQ_pI, zJ_pI, zR_pR, zT_pR, zL_pR, zn_pR, zE_pR, zI_pR, zQ_pR, zJ_pR, zR_pJ, zT_pJ, zL_pJ, zn_pJ, zE_pJ, zI_pJ, zQ_pJ, zJ_pJ, g]
  · rw [zI_pI, if_neg (by omega), zI_pI, if_neg (by omega), zI_pI, if_neg (by omega), zI_pI, if_neg (by omega), zI_pI, if_pos ⟨rfl, rfl⟩]; rfl
  · rw [zI_pI, if_neg (by omega), zI_pI, if_neg (by omega), zI_pI, if_neg (by omega), zI_pI, if_pos ⟨rfl, rfl⟩]; rfl
  · rw [zI_pI, if_neg (by omega), zI_pI, if_neg (by omega), zI_pI, if_pos ⟨rfl, rfl⟩]; rfl
  · rw [zI_pI, if_neg (by omega), zI_pI, if_pos ⟨rfl, rfl⟩]; rfl
  · rw [zI_pI, if_pos ⟨rfl, rfl⟩]; rfl
  · rw [zI_pI, if_neg (by omega), zI_pI, if_neg (by omega), zI_pI, if_neg (by omega), zI_pI, if_neg (by omega), zI_pI, if_neg (by omega)]; exact q6
theorem c_ready {k : Tsk} (t : wfT h w num) (q : tkD h w k) (a b : Int32) : ∃ h1, f_X8_ready (w + 7) a b h = some h1 ∧ tkD h1 w (tkReady k a b) ∧ cf (fun x _ => x = w + 7) h h1 ∧ nz h h1 := by
  obtain ⟨-, -, -, -, -, g⟩ := t
  obtain ⟨q1, q2, q3, q4, q5, q6⟩ := q
  refine ⟨pI (pI (pI h 902 (w + 7) a) 903 (w + 7) b) 904 (w + 7) 0, ?_, ⟨?_, ?_, ?_, ?_, ?_, ?_⟩, ((cf_pI (S := fun x _ => x = w + 7) rfl).tr (cf_pI (S := fun x _ => x = w + 7) rfl)).tr (cf_pI (S := fun x _ => x = w + 7) rfl), rfl⟩
  · simp only [f_X8_ready, o10, o00, bh, isO, inR, ck_true, bind_some9, Nat.reduceLeDiff, Nat.reduceEqDiff, and_self, and_true, true_and, false_and, and_false, not_false_eq_true, not_true_eq_false, or_self, or_false, false_or, if_true, if_false, reduceIte, zR_pE, zT_pE, zL_pE, zn_pE, zE_pE, zI_pE, zQ_pE, zJ_pE, zR_pI, zT_pI, zL_pI, zn_pI, zE_pI, zI_pI, zQ_pI, zJ_pI, zR_pR, zT_pR, zL_pR, zn_pR, zE_pR, zI_pR, zQ_pR, zJ_pR, zR_pJ, zT_pJ, zL_pJ, zn_pJ, zE_pJ, zI_pJ, zQ_pJ, zJ_pJ, g]
  · rw [zI_pI, if_neg (by omega), zI_pI, if_neg (by omega), zI_pI, if_neg (by omega)]; exact q1
  · rw [zI_pI, if_neg (by omega), zI_pI, if_neg (by omega), zI_pI, if_neg (by omega)]; exact q2
  · rw [zI_pI, if_neg (by omega), zI_pI, if_neg (by omega), zI_pI, if_pos ⟨rfl, rfl⟩]; rfl
  · rw [zI_pI, if_neg (by omega), zI_pI, if_pos ⟨rfl, rfl⟩]; rfl
  · rw [zI_pI, if_pos ⟨rfl, rfl⟩]; rfl
  · rw [zI_pI, if_neg (by omega), zI_pI, if_neg (by omega), zI_pI, if_neg (by omega)]; exact q6
/-- an event is taken by a workflow -/
theorem c_take (q : wfC h w num f) (g : pgC h w (flP f)) (hn : ∀ p, (zR h 1004 w = p ∨ zR h 501 (zR h 1004 w) = p) → ¬ (w ≤ p ∧ p ≤ w + 7)) (hP : (flP f).length ≤ 60) (hS : wkS (flW f) < 100) (hl : (flE f).length < 60) (e : Evt) (he : e.1 < 1000) (he0 : e.1 ≠ 0) (hset : (e.1 = 6 ∨ e.1 = 2 ∨ e.1 = 3 ∨ (e.1 = 8 ∧ wkP (flW f) = 2) ∨ (e.1 = 7 ∧ wkP (flW f) = 3)) → wkS (flW f) < (flP f).length → ∃ v, v < 8 ∧ (stpAt (flP f) (wkS (flW f))).2.1 = nI v) (hp5 : wkP (flW f) < 1000) (now : Int32) : ∃ h1, f_X9_take w (nI e.1) e.2.1 e.2.2.1 e.2.2.2 now h = some h1 ∧ wfC h1 w num (flTake f e now) ∧ pgC h1 w (flP f) ∧ cf (tkX w) h h1 ∧ nz h h1 := by
  obtain ⟨t, qh, qw, qk⟩ := q
  obtain ⟨h1, x1, x2, x3, x4⟩ := c_add t qh hl e
  have f1 : cf (tkX w) h h1 := x3.mono (fun a j _ z => Or.inr (Or.inl z))
  have T1 := t.tk f1
  have g1 := g.tk t f1 hn
  have qw1 : wkD h1 w (flW f) := qw.on t x3 (fun j _ _ => by unfold hsX; omega) (fun j => by unfold hsX; omega)
  have qk1 : tkD h1 w (flT f) := qk.on t x3 (fun j => by unfold hsX; omega)
  obtain ⟨⟨t1, t2, t3, t4, t5⟩, -, ⟨c1, -⟩, -⟩ := id t
  obtain ⟨⟨u1, u2, u3, u4, u5⟩, -, -, -, -, u9⟩ := id T1
  have fin : ∀ (g2 : Hp) (W2 : Wkr) (k2 : Tsk), wkD g2 w W2 → tkD g2 w k2 → cf (fun a j => wkX w a j ∨ a = w + 7) h1 g2 → nz h1 g2 → W2 = wkTake (flP f) (flW f) e → k2 = (flT (flTake f e now)) → f_X9_take w (nI e.1) e.2.1 e.2.2.1 e.2.2.2 now h = some g2 → ∃ h1, f_X9_take w (nI e.1) e.2.1 e.2.2.1 e.2.2.2 now h = some h1 ∧ wfC h1 w num (flTake f e now) ∧ pgC h1 w (flP f) ∧ cf (tkX w) h h1 ∧ nz h h1 := fun g2 W2 k2 a1 a2 a3 a4 a5 a6 a7 => by
    have f2 : cf (tkX w) h1 g2 := a3.mono (fun a j _ z => z.elim Or.inl (fun z => Or.inr (Or.inr z)))
    refine ⟨g2, a7, ⟨T1.tk f2, x2.on T1 a3 (by unfold wkX; omega) (fun a j _ _ => by unfold wkX; omega), by rw [a5] at a1; exact a1, by rw [a6] at a2; exact a2⟩, ?_, f1.tr f2, x4.tr a4⟩
    refine g1.tk T1 f2 (fun p hp => hn p ?_)
    have e4 : zR h1 1004 w = zR h 1004 w := f1.R t1 (by unfold tkX wkX hsX; omega)
    rcases hp with z | z
    · left; rw [← z, e4]
    · right
      obtain ⟨pp, cc, ⟨b1, b2, -⟩, ⟨b4, -⟩, -⟩ := g
      have np := hn pp (Or.inl b1)
      rw [← z, e4, b1]
      exact (f1.R b2 (by unfold tkX wkX hsX; omega)).symm
  have ke : ∀ k : Nat, k < 1000 → (nI e.1 = nI k ↔ e.1 = k) := fun k hk => zi_eq (by omega) (by omega)
  have kT : ∀ k : Nat, k < 1000 → e.1 = k → (nI e.1 = nI k) = True := fun k hk z => eq_true ((ke k hk).mpr z)
  have kF : ∀ k : Nat, k < 1000 → e.1 ≠ k → (nI e.1 = nI k) = False := fun k hk z => eq_false (fun y => z ((ke k hk).mp y))
  by_cases k1 : e.1 = 1
  · have d1 : (nI e.1 = 1) = True := kT 1 (by omega) k1
    obtain ⟨h2, y1, y2, y3, y4⟩ := c_opens T1 qk1 e.2.1 e.2.2.1 now
    have f2 : cf (tkX w) h1 h2 := y3.mono (fun a j _ z => Or.inr (Or.inr z))
    have T2 := T1.tk f2
    obtain ⟨h3, z1, z2, z3, z4⟩ := c_rest T2 (qw1.on T1 y3 (fun j _ _ => by omega) (fun j => by omega)) 0 0
    have z1 : f_X9_rest w 0 0 h2 = some h3 := z1
    have o2 := T2.1.1
    refine fin h3 _ _ z2 (y2.on T2 z3 (fun j => by unfold wkX; omega)) ((y3.mono (fun a j _ z => Or.inr z)).tr (z3.mono (fun a j _ z => Or.inl z))) (y4.tr z4) ?_ ?_ ?_
    · unfold wkTake; rw [if_pos k1]
    · show _ = if e.1 = 1 then _ else _
      rw [if_pos k1]
    · simp only [f_X9_take, o10, o00, bh, isO, inR, ck_true, bind_some9, Nat.reduceLeDiff, Nat.reduceEqDiff, and_self, and_true, true_and, false_and, and_false, not_false_eq_true, not_true_eq_false, or_self, or_false, false_or, if_true, if_false, reduceIte, zR_pE, zT_pE, zL_pE, zn_pE, zE_pE, zI_pE, zQ_pE, zJ_pE, zR_pI, zT_pI, zL_pI, zn_pI, zE_pI, zI_pI, zQ_pI, zJ_pI, zR_pR, zT_pR, zL_pR, zn_pR, zE_pR, zI_pR, zQ_pR, zJ_pR, zR_pJ, zT_pJ, zL_pJ, zn_pJ, zE_pJ, zI_pJ, zQ_pJ, zJ_pJ, t1, t4, c1, x1, d1, u1, u5, u9, y1, o2, z1]
  · have d1 : (nI e.1 = 1) = False := kF 1 (by omega) k1
    have setf : ∀ (g3 : Hp) (U : Wkr) (v : Int32), wfT g3 w num → wkD g3 w U → pgC g3 w (flP f) → wkS U = wkS (flW f) → (wkS (flW f) < (flP f).length → ∃ v, v < 8 ∧ (stpAt (flP f) (wkS (flW f))).2.1 = nI v) → ∃ g4, f_X9_set w v g3 = some g4 ∧ wkD g4 w (wkSet (flP f) U v) ∧ cf (wkX w) g3 g4 ∧ nz g3 g4 := fun g3 U v b1 b2 b3 b4 b5 => c_set b1 b2 b3 (by omega) hP (by rw [b4]; exact b5) v
    have f0 : cf (fun a j => wkX w a j ∨ a = w + 7) h1 (pI h1 904 (w + 7) 0) := cf_pI (Or.inr rfl)
    have f0t : cf (tkX w) h1 (pI h1 904 (w + 7) 0) := f0.mono (fun a j _ z => z.elim Or.inl (fun z => Or.inr (Or.inr z)))
    have hn1 : ∀ p, (zR h1 1004 w = p ∨ zR h1 501 (zR h1 1004 w) = p) → ¬ (w ≤ p ∧ p ≤ w + 7) := fun p hp => hn p (by
      have e4 : zR h1 1004 w = zR h 1004 w := f1.R t1 (by unfold tkX wkX hsX; omega)
      rcases hp with z | z
      · left; rw [← z, e4]
      · right
        obtain ⟨pp, cc, ⟨b1, b2, -⟩, ⟨b4, -⟩, -⟩ := g
        have np := hn pp (Or.inl b1)
        rw [← z, e4, b1]
        exact (f1.R b2 (by unfold tkX wkX hsX; omega)).symm)
    have wkE : ∀ k : Nat, e.1 = k → wkTake (flP f) (flW f) e = (if k = 1 then wkRest (flW f) 0 0 else if k = 4 then wkRest (flW f) 1 e.2.1 else if k = 6 then wkBorn (wkSet (flP f) (flW f) (Int32.ofNat (wkC (flW f)))) else if k = 9 then wkLeave (flW f) (wkS (flW f) + 1) else if k = 2 ∨ k = 3 then wkResume (wkSet (flP f) (flW f) e.2.1) else if k = 5 then wkResume (wkLeave (flW f) (wkS (flW f) + 1)) else if k = 8 then (if wkP (flW f) = 2 then wkResume (wkSet (flP f) (wkTook (flW f)) e.2.1) else flW f) else if k = 7 then (if wkP (flW f) = 3 ∧ wkA (flW f) = e.2.1 then wkResume (wkSet (flP f) (flW f) e.2.2.1) else flW f) else (wkV (flW f), wkS (flW f), wkN (flW f), 4, wkA (flW f), wkT (flW f), wkC (flW f), e.2.1)) := fun k z => by rw [← z]; rfl
    have tkE : flT (flTake f e now) = if e.1 = 2 ∨ e.1 = 3 ∨ 10 ≤ e.1 then tkFree (flT f) else flT f := by
      show (if e.1 = 1 then _ else _) = _
      rw [if_neg k1]
    by_cases k23 : e.1 = 2 ∨ e.1 = 3
    · obtain ⟨h3, y1, y2, y3, y4⟩ := setf (pI h1 904 (w + 7) 0) (flW f) e.2.1 (T1.tk f0t) qw1.t0 (g1.tk T1 f0t hn1) rfl (hset (by omega))
      have T3 := (T1.tk f0t).wk y3
      obtain ⟨h4, z1, z2, z3, z4⟩ := c_resume T3 y2
      have o3 := T3.1.1
      have ft : cf (fun a j => wkX w a j ∨ a = w + 7) (pI h1 904 (w + 7) 0) h4 := (y3.tr z3).mono (fun a j _ z => Or.inl z)
      refine fin h4 _ _ z2 ((tk_free qk1).on (T1.tk f0t) (y3.tr z3) (fun j => by unfold wkX; omega)) (f0.tr ft) (y4.tr z4) ?_ ?_ ?_
      · rcases k23 with k | k
        · rw [wkE 2 k]; rfl
        · rw [wkE 3 k]; rfl
      · rw [tkE, if_pos (by omega)]
      · rcases k23 with k | k
        · have d2 : (nI e.1 = 2) = True := kT 2 (by omega) k
          simp only [f_X9_take, o10, o00, bh, isO, inR, ck_true, bind_some9, Nat.reduceLeDiff, Nat.reduceEqDiff, and_self, and_true, true_and, false_and, and_false, not_false_eq_true, not_true_eq_false, or_self, or_false, false_or, if_true, if_false, reduceIte, zR_pE, zT_pE, zL_pE, zn_pE, zE_pE, zI_pE, zQ_pE, zJ_pE, zR_pI, zT_pI, zL_pI, zn_pI, zE_pI, zI_pI, zQ_pI, zJ_pI, zR_pR, zT_pR, zL_pR, zn_pR, zE_pR, zI_pR, zQ_pR, zJ_pR, zR_pJ, zT_pJ, zL_pJ, zn_pJ, zE_pJ, zI_pJ, zQ_pJ, zJ_pJ, t1, t4, c1, x1, d1, d2, u1, u5, u9, y1, o3, z1]
        · have d2 : (nI e.1 = 2) = False := kF 2 (by omega) (by omega)
          have d3 : (nI e.1 = 3) = True := kT 3 (by omega) k
          simp only [f_X9_take, o10, o00, bh, isO, inR, ck_true, bind_some9, Nat.reduceLeDiff, Nat.reduceEqDiff, and_self, and_true, true_and, false_and, and_false, not_false_eq_true, not_true_eq_false, or_self, or_false, false_or, if_true, if_false, reduceIte, zR_pE, zT_pE, zL_pE, zn_pE, zE_pE, zI_pE, zQ_pE, zJ_pE, zR_pI, zT_pI, zL_pI, zn_pI, zE_pI, zI_pI, zQ_pI, zJ_pI, zR_pR, zT_pR, zL_pR, zn_pR, zE_pR, zI_pR, zQ_pR, zJ_pR, zR_pJ, zT_pJ, zL_pJ, zn_pJ, zE_pJ, zI_pJ, zQ_pJ, zJ_pJ, t1, t4, c1, x1, d1, d2, d3, u1, u5, u9, y1, o3, z1]
    · have d2 : (nI e.1 = 2) = False := kF 2 (by omega) (by omega)
      have d3 : (nI e.1 = 3) = False := kF 3 (by omega) (by omega)
      have rf1 : cf (fun a j => wkX w a j ∨ a = w + 7) h1 h1 := cf.rf h1
      by_cases k4 : e.1 = 4
      · have d4 : (nI e.1 = 4) = True := kT 4 (by omega) k4
        obtain ⟨h3, z1, z2, z3, z4⟩ := c_rest T1 qw1 1 e.2.1
        have z1 : f_X9_rest w 1 e.2.1 h1 = some h3 := z1
        refine fin h3 _ _ z2 (qk1.on T1 z3 (fun j => by unfold wkX; omega)) (z3.mono (fun a j _ z => Or.inl z)) z4 ?_ ?_ ?_
        · rw [wkE 4 k4]; rfl
        · rw [tkE, if_neg (by omega)]
        · simp only [f_X9_take, o10, o00, bh, isO, inR, ck_true, bind_some9, Nat.reduceLeDiff, Nat.reduceEqDiff, and_self, and_true, true_and, false_and, and_false, not_false_eq_true, not_true_eq_false, or_self, or_false, false_or, if_true, if_false, reduceIte, zR_pE, zT_pE, zL_pE, zn_pE, zE_pE, zI_pE, zQ_pE, zJ_pE, zR_pI, zT_pI, zL_pI, zn_pI, zE_pI, zI_pI, zQ_pI, zJ_pI, zR_pR, zT_pR, zL_pR, zn_pR, zE_pR, zI_pR, zQ_pR, zJ_pR, zR_pJ, zT_pJ, zL_pJ, zn_pJ, zE_pJ, zI_pJ, zQ_pJ, zJ_pJ, t1, t4, c1, x1, d1, d2, d3, d4, u1, z1]
      · have d4 : (nI e.1 = 4) = False := kF 4 (by omega) k4
        have s1 := qw1.2.1
        by_cases k5 : e.1 = 5
        · have d5 : (nI e.1 = 5) = True := kT 5 (by omega) k5
          obtain ⟨h3, y1, y2, y3, y4⟩ := c_leave T1 qw1 (wkS (flW f) + 1)
          have T3 := T1.wk y3
          have o3 := T3.1.1
          obtain ⟨h4, z1, z2, z3, z4⟩ := c_resume T3 y2
          refine fin h4 _ _ z2 (qk1.on T1 (y3.tr z3) (fun j => by unfold wkX; omega)) ((y3.tr z3).mono (fun a j _ z => Or.inl z)) (y4.tr z4) ?_ ?_ ?_
          · rw [wkE 5 k5]; rfl
          · rw [tkE, if_neg (by omega)]
          · simp only [f_X9_take, o10, o00, bh, isO, inR, ck_true, bind_some9, Nat.reduceLeDiff, Nat.reduceEqDiff, and_self, and_true, true_and, false_and, and_false, not_false_eq_true, not_true_eq_false, or_self, or_false, false_or, if_true, if_false, reduceIte, zR_pE, zT_pE, zL_pE, zn_pE, zE_pE, zI_pE, zQ_pE, zJ_pE, zR_pI, zT_pI, zL_pI, zn_pI, zE_pI, zI_pI, zQ_pI, zJ_pI, zR_pR, zT_pR, zL_pR, zn_pR, zE_pR, zI_pR, zQ_pR, zJ_pR, zR_pJ, zT_pJ, zL_pJ, zn_pJ, zE_pJ, zI_pJ, zQ_pJ, zJ_pJ, t1, t4, c1, x1, d1, d2, d3, d4, d5, u1, s1, zi_one, y1, o3, z1]
        · have d5 : (nI e.1 = 5) = False := kF 5 (by omega) k5
          by_cases k6 : e.1 = 6
          · have d6 : (nI e.1 = 6) = True := kT 6 (by omega) k6
            have s6 := qw1.2.2.2.2.2.2.1
            obtain ⟨h3, y1, y2, y3, y4⟩ := setf h1 (flW f) (nI (wkC (flW f))) T1 qw1 g1 rfl (hset (by omega))
            have T3 := T1.wk y3
            have o3 := T3.1.1
            have s63 : zI h3 1010 w = nI (wkC (flW f)) := y2.2.2.2.2.2.2.1
            have bb := c_born y2
            have fb : cf (wkX w) h3 (pI h3 1010 w (nI (wkC (wkSet (flP f) (flW f) (nI (wkC (flW f)))) + 1))) := cf_pI (Or.inl ⟨rfl, by omega, by omega⟩)
            refine fin _ _ _ bb (qk1.on T1 (y3.tr fb) (fun j => by unfold wkX; omega)) ((y3.tr fb).mono (fun a j _ z => Or.inl z)) y4 ?_ ?_ ?_
            · rw [wkE 6 k6]; rfl
            · rw [tkE, if_neg (by omega)]
            · simp only [f_X9_take, o10, o00, bh, isO, inR, ck_true, bind_some9, Nat.reduceLeDiff, Nat.reduceEqDiff, and_self, and_true, true_and, false_and, and_false, not_false_eq_true, not_true_eq_false, or_self, or_false, false_or, if_true, if_false, reduceIte, zR_pE, zT_pE, zL_pE, zn_pE, zE_pE, zI_pE, zQ_pE, zJ_pE, zR_pI, zT_pI, zL_pI, zn_pI, zE_pI, zI_pI, zQ_pI, zJ_pI, zR_pR, zT_pR, zL_pR, zn_pR, zE_pR, zI_pR, zQ_pR, zJ_pR, zR_pJ, zT_pJ, zL_pJ, zn_pJ, zE_pJ, zI_pJ, zQ_pJ, zJ_pJ, t1, t4, c1, x1, d1, d2, d3, d4, d5, d6, u1, s6, y1, o3, s63, zi_one]
              rfl
          · have d6 : (nI e.1 = 6) = False := kF 6 (by omega) k6
            have s3 := qw1.2.2.2.1
            by_cases k7 : e.1 = 7
            · have d7 : (nI e.1 = 7) = True := kT 7 (by omega) k7
              have q3 : nI (wkP (flW f)) = (3 : Int32) ↔ wkP (flW f) = 3 := zi_eq (b := 3) (by omega) (by omega)
              by_cases p3 : wkP (flW f) = 3
              · have e3 := eq_true (q3.mpr p3)
                have s4 := qw1.2.2.2.2.1 (Or.inr p3)
                by_cases pa : wkA (flW f) = e.2.1
                · have ea := eq_true pa
                  obtain ⟨h3, y1, y2, y3, y4⟩ := setf h1 (flW f) e.2.2.1 T1 qw1 g1 rfl (hset (by omega))
                  have T3 := T1.wk y3
                  have o3 := T3.1.1
                  obtain ⟨h4, z1, z2, z3, z4⟩ := c_resume T3 y2
                  refine fin h4 _ _ z2 (qk1.on T1 (y3.tr z3) (fun j => by unfold wkX; omega)) ((y3.tr z3).mono (fun a j _ z => Or.inl z)) (y4.tr z4) ?_ ?_ ?_
                  · rw [wkE 7 k7]
                    show _ = if wkP (flW f) = 3 ∧ wkA (flW f) = e.2.1 then _ else _
                    rw [if_pos ⟨p3, pa⟩]
                  · rw [tkE, if_neg (by omega)]
                  · simp only [f_X9_take, o10, o00, bh, isO, inR, ck_true, bind_some9, Nat.reduceLeDiff, Nat.reduceEqDiff, and_self, and_true, true_and, false_and, and_false, not_false_eq_true, not_true_eq_false, or_self, or_false, false_or, if_true, if_false, reduceIte, zR_pE, zT_pE, zL_pE, zn_pE, zE_pE, zI_pE, zQ_pE, zJ_pE, zR_pI, zT_pI, zL_pI, zn_pI, zE_pI, zI_pI, zQ_pI, zJ_pI, zR_pR, zT_pR, zL_pR, zn_pR, zE_pR, zI_pR, zQ_pR, zJ_pR, zR_pJ, zT_pJ, zL_pJ, zn_pJ, zE_pJ, zI_pJ, zQ_pJ, zJ_pJ, t1, t4, c1, x1, d1, d2, d3, d4, d5, d6, d7, u1, s3, e3, s4, ea, y1, o3, z1]
                · have ea := eq_false pa
                  refine fin h1 _ _ qw1 qk1 rf1 rfl ?_ ?_ ?_
                  · rw [wkE 7 k7]
                    show _ = if wkP (flW f) = 3 ∧ wkA (flW f) = e.2.1 then _ else _
                    rw [if_neg (fun z => pa z.2)]
                  · rw [tkE, if_neg (by omega)]
                  · simp only [f_X9_take, o10, o00, bh, isO, inR, ck_true, bind_some9, Nat.reduceLeDiff, Nat.reduceEqDiff, and_self, and_true, true_and, false_and, and_false, not_false_eq_true, not_true_eq_false, or_self, or_false, false_or, if_true, if_false, reduceIte, zR_pE, zT_pE, zL_pE, zn_pE, zE_pE, zI_pE, zQ_pE, zJ_pE, zR_pI, zT_pI, zL_pI, zn_pI, zE_pI, zI_pI, zQ_pI, zJ_pI, zR_pR, zT_pR, zL_pR, zn_pR, zE_pR, zI_pR, zQ_pR, zJ_pR, zR_pJ, zT_pJ, zL_pJ, zn_pJ, zE_pJ, zI_pJ, zQ_pJ, zJ_pJ, t1, t4, c1, x1, d1, d2, d3, d4, d5, d6, d7, u1, s3, e3, s4, ea]
              · have e3 := eq_false (fun z => p3 (q3.mp z))
                refine fin h1 _ _ qw1 qk1 rf1 rfl ?_ ?_ ?_
                · rw [wkE 7 k7]
                  show _ = if wkP (flW f) = 3 ∧ wkA (flW f) = e.2.1 then _ else _
                  rw [if_neg (fun z => p3 z.1)]
                · rw [tkE, if_neg (by omega)]
                · simp only [f_X9_take, o10, o00, bh, isO, inR, ck_true, bind_some9, Nat.reduceLeDiff, Nat.reduceEqDiff, and_self, and_true, true_and, false_and, and_false, not_false_eq_true, not_true_eq_false, or_self, or_false, false_or, if_true, if_false, reduceIte, zR_pE, zT_pE, zL_pE, zn_pE, zE_pE, zI_pE, zQ_pE, zJ_pE, zR_pI, zT_pI, zL_pI, zn_pI, zE_pI, zI_pI, zQ_pI, zJ_pI, zR_pR, zT_pR, zL_pR, zn_pR, zE_pR, zI_pR, zQ_pR, zJ_pR, zR_pJ, zT_pJ, zL_pJ, zn_pJ, zE_pJ, zI_pJ, zQ_pJ, zJ_pJ, t1, t4, c1, x1, d1, d2, d3, d4, d5, d6, d7, u1, s3, e3]
            · have d7 : (nI e.1 = 7) = False := kF 7 (by omega) k7
              by_cases k8 : e.1 = 8
              · have d8 : (nI e.1 = 8) = True := kT 8 (by omega) k8
                have q2 : nI (wkP (flW f)) = (2 : Int32) ↔ wkP (flW f) = 2 := zi_eq (b := 2) (by omega) (by omega)
                have s5 := qw1.2.2.2.2.2.1
                by_cases p2 : wkP (flW f) = 2
                · have e2 := eq_true (q2.mpr p2)
                  have fT : cf (wkX w) h1 (pI h1 1009 w (nI (wkT (flW f) + 1))) := cf_pI (Or.inl ⟨rfl, by omega, by omega⟩)
                  have T2 := T1.wk fT
                  obtain ⟨h3, y1, y2, y3, y4⟩ := setf _ (wkTook (flW f)) e.2.1 T2 (c_took qw1) (g1.on T1 fT) rfl (hset (by omega))
                  have T3 := T2.wk y3
                  have o3 := T3.1.1
                  obtain ⟨h4, z1, z2, z3, z4⟩ := c_resume T3 y2
                  refine fin h4 _ _ z2 (qk1.on T1 ((fT.tr y3).tr z3) (fun j => by unfold wkX; omega)) (((fT.tr y3).tr z3).mono (fun a j _ z => Or.inl z)) (y4.tr z4) ?_ ?_ ?_
                  · rw [wkE 8 k8]
                    show _ = if wkP (flW f) = 2 then _ else _
                    rw [if_pos p2]
                  · rw [tkE, if_neg (by omega)]
                  · simp only [f_X9_take, o10, o00, bh, isO, inR, ck_true, bind_some9, Nat.reduceLeDiff, Nat.reduceEqDiff, and_self, and_true, true_and, false_and, and_false, not_false_eq_true, not_true_eq_false, or_self, or_false, false_or, if_true, if_false, reduceIte, zR_pE, zT_pE, zL_pE, zn_pE, zE_pE, zI_pE, zQ_pE, zJ_pE, zR_pI, zT_pI, zL_pI, zn_pI, zE_pI, zI_pI, zQ_pI, zJ_pI, zR_pR, zT_pR, zL_pR, zn_pR, zE_pR, zI_pR, zQ_pR, zJ_pR, zR_pJ, zT_pJ, zL_pJ, zn_pJ, zE_pJ, zI_pJ, zQ_pJ, zJ_pJ, t1, t4, c1, x1, d1, d2, d3, d4, d5, d6, d7, d8, u1, s3, e2, s5, zi_one, y1, o3, z1]
                · have e2 := eq_false (fun z => p2 (q2.mp z))
                  refine fin h1 _ _ qw1 qk1 rf1 rfl ?_ ?_ ?_
                  · rw [wkE 8 k8]
                    show _ = if wkP (flW f) = 2 then _ else _
                    rw [if_neg p2]
                  · rw [tkE, if_neg (by omega)]
                  · simp only [f_X9_take, o10, o00, bh, isO, inR, ck_true, bind_some9, Nat.reduceLeDiff, Nat.reduceEqDiff, and_self, and_true, true_and, false_and, and_false, not_false_eq_true, not_true_eq_false, or_self, or_false, false_or, if_true, if_false, reduceIte, zR_pE, zT_pE, zL_pE, zn_pE, zE_pE, zI_pE, zQ_pE, zJ_pE, zR_pI, zT_pI, zL_pI, zn_pI, zE_pI, zI_pI, zQ_pI, zJ_pI, zR_pR, zT_pR, zL_pR, zn_pR, zE_pR, zI_pR, zQ_pR, zJ_pR, zR_pJ, zT_pJ, zL_pJ, zn_pJ, zE_pJ, zI_pJ, zQ_pJ, zJ_pJ, t1, t4, c1, x1, d1, d2, d3, d4, d5, d6, d7, d8, u1, s3, e2]
              · have d8 : (nI e.1 = 8) = False := kF 8 (by omega) k8
                by_cases k9 : e.1 = 9
                · have d9 : (nI e.1 = 9) = True := kT 9 (by omega) k9
                  obtain ⟨h3, y1, y2, y3, y4⟩ := c_leave T1 qw1 (wkS (flW f) + 1)
                  refine fin h3 _ _ y2 (qk1.on T1 y3 (fun j => by unfold wkX; omega)) (y3.mono (fun a j _ z => Or.inl z)) y4 ?_ ?_ ?_
                  · rw [wkE 9 k9]; rfl
                  · rw [tkE, if_neg (by omega)]
                  · simp only [f_X9_take, o10, o00, bh, isO, inR, ck_true, bind_some9, Nat.reduceLeDiff, Nat.reduceEqDiff, and_self, and_true, true_and, false_and, and_false, not_false_eq_true, not_true_eq_false, or_self, or_false, false_or, if_true, if_false, reduceIte, zR_pE, zT_pE, zL_pE, zn_pE, zE_pE, zI_pE, zQ_pE, zJ_pE, zR_pI, zT_pI, zL_pI, zn_pI, zE_pI, zI_pI, zQ_pI, zJ_pI, zR_pR, zT_pR, zL_pR, zn_pR, zE_pR, zI_pR, zQ_pR, zJ_pR, zR_pJ, zT_pJ, zL_pJ, zn_pJ, zE_pJ, zI_pJ, zQ_pJ, zJ_pJ, t1, t4, c1, x1, d1, d2, d3, d4, d5, d6, d7, d8, d9, u1, s1, zi_one, y1]
                · have d9 : (nI e.1 = 9) = False := kF 9 (by omega) k9
                  have k10 : 10 ≤ e.1 := by omega
                  refine fin (pI (pI (pI h1 904 (w + 7) 0) 1007 w 4) 1011 w e.2.1) (wkV (flW f), wkS (flW f), wkN (flW f), 4, wkA (flW f), wkT (flW f), wkC (flW f), e.2.1) (tkFree (flT f)) ?_ ?_ ?_ rfl ?_ ?_ ?_
                  · obtain ⟨q0, q1, q2, q3, q4, q5, q6, q7⟩ := qw1
                    refine ⟨q0, ?_, ?_, ?_, ?_, ?_, ?_, ?_⟩
                    · rw [zI_pI, if_neg (by omega), zI_pI, if_neg (by omega), zI_pI, if_neg (by omega)]; exact q1
                    · rw [zI_pI, if_neg (by omega), zI_pI, if_neg (by omega), zI_pI, if_neg (by omega)]; exact q2
                    · rw [zI_pI, if_neg (by omega), zI_pI, if_pos ⟨rfl, rfl⟩]; rfl
                    · rw [zI_pI, if_neg (by omega), zI_pI, if_neg (by omega), zI_pI, if_neg (by omega)]; exact fun z => absurd z (by show ¬ (4 = 1 ∨ 4 = 3); decide)
                    · rw [zI_pI, if_neg (by omega), zI_pI, if_neg (by omega), zI_pI, if_neg (by omega)]; exact q5
                    · rw [zI_pI, if_neg (by omega), zI_pI, if_neg (by omega), zI_pI, if_neg (by omega)]; exact q6
                    · rw [zI_pI, if_pos ⟨rfl, rfl⟩]
                  · obtain ⟨q1, q2, q3, q4, q5, q6⟩ := tk_free qk1
                    refine ⟨?_, ?_, ?_, ?_, ?_, ?_⟩
                    all_goals (rw [zI_pI, if_neg (by omega), zI_pI, if_neg (by omega)]; assumption)
                  · exact (f0.tr (cf_pI (Or.inl (Or.inl ⟨rfl, by omega, by omega⟩)))).tr (cf_pI (Or.inl (Or.inl ⟨rfl, by omega, by omega⟩)))
                  · unfold wkTake
                    rw [if_neg k1, if_neg k4, if_neg k6, if_neg k9, if_neg k23, if_neg k5, if_neg k8, if_neg k7]
                  · rw [tkE, if_pos (by omega)]
                  · simp only [f_X9_take, o10, o00, bh, isO, inR, ck_true, bind_some9, Nat.reduceLeDiff, Nat.reduceEqDiff, and_self, and_true, true_and, false_and, and_false, not_false_eq_true, not_true_eq_false, or_self, or_false, false_or, if_true, if_false, reduceIte, zR_pE, zT_pE, zL_pE, zn_pE, zE_pE, zI_pE, zQ_pE, zJ_pE, zR_pI, zT_pI, zL_pI, zn_pI, zE_pI, zI_pI, zQ_pI, zJ_pI, zR_pR, zT_pR, zL_pR, zn_pR, zE_pR, zI_pR, zQ_pR, zJ_pR, zR_pJ, zT_pJ, zL_pJ, zn_pJ, zE_pJ, zI_pJ, zQ_pJ, zJ_pJ, t1, t4, c1, x1, d1, d2, d3, d4, d5, d6, d7, d8, d9, u1, u5, u9]
theorem c_isMessage (t : wfT h w num) {es : List Evt} (q : hsD h w es) (hl : 0 < es.length) {k : Nat} (hk : k < 1000) : f_X9_isMessage w (nI k) h = some (if (decide (k = 6) || decide (k = 9) || (decide (10 ≤ k) && decide (rpO es < 0))) = true then 1 else 0, h) := by
  obtain ⟨⟨t1, t2, t3, t4, t5⟩, -, ⟨c1, c2, c3, c4, c5⟩, ⟨d1, d2, d3, d4⟩, ⟨e1, e2, e3, e4⟩, -⟩ := id t
  have o6 : zE h (w + 6) (0 : Int32).toNatClampNeg = rpO es := (q.at hl).2.2.2
  have i0 : inR (0 : Int32) 60 := by decide
  have q6 : nI k = (6 : Int32) ↔ k = 6 := zi_eq (b := 6) (by omega) (by omega)
  have q9 : nI k = (9 : Int32) ↔ k = 9 := zi_eq (b := 9) (by omega) (by omega)
  have q10 : nI k < (10 : Int32) ↔ k < 10 := zi_lt (b := 10) (by omega) (by omega)
  unfold f_X9_isMessage
  by_cases k6 : k = 6
  · rw [if_pos (q6.mpr k6), decide_eq_true k6]; rfl
  · rw [if_neg (fun z => k6 (q6.mp z)), decide_eq_false k6, Bool.false_or]
    by_cases k9 : k = 9
    · rw [if_pos (q9.mpr k9), decide_eq_true k9]; rfl
    · rw [if_neg (fun z => k9 (q9.mp z)), decide_eq_false k9, Bool.false_or]
      by_cases k10 : k < 10
      · rw [if_pos (q10.mpr k10), decide_eq_false (by omega : ¬ 10 ≤ k), Bool.false_and]; rfl
      · rw [if_neg (fun z => k10 (q10.mp z)), decide_eq_true (by omega : 10 ≤ k), Bool.true_and, ck_yes t1, t4, ck_yes c1, c5, ck_yes d4, e4, ck_yes i0, o6]
        by_cases co : rpO es < 0
        · rw [if_neg (Int32.not_le.mpr co), decide_eq_true co]; rfl
        · rw [if_pos (Int32.not_lt.mp co), decide_eq_false co]; rfl
end Take
/-! THE CLASS'S OUTBOXES -/
theorem c_grow22 {h : Hp} {B n : Nat} (o : isO h B 22) (l : zL h B = n) (hn : 1 ≤ n) (hn2 : n ≤ 100000) : ∃ h1, f_J7_copyOf_59c91 B (nI (2 * n)) h = some (zn h, h1) ∧ cf (fun _ _ => False) h h1 ∧ isO h1 (zn h) 22 ∧ zL h1 (zn h) = 2 * n ∧ (∀ p, p < n → zE h1 (zn h) p = zE h B p) ∧ zs h1 = zs h + 2 * n ∧ zn h1 = zn h + 1 := by
  have h8 : 8 ≤ zn h := by have := o.1; have := o.2.1; omega
  have d0 : ¬ nI (2 * n) = nI (zL h B) := fun z => by
    rw [l] at z
    have := (zi_eq (by omega) (by omega)).mp z
    omega
  have n1 : (nI (2 * n)).toNatClampNeg = 2 * n := zi_nat (by omega)
  have g1 : ¬ nI (2 * n) < 0 := zi_neg (by omega)
  have oB : isO (pN h 22 (2 * n)) B 22 := (cf_pN (S := fun _ _ => False) h 22 (2 * n)).O o
  have oN : isO (pN h 22 (2 * n)) (zn h) 22 := ⟨h8, Nat.lt_succ_self _, va_up_at⟩
  have lB : zL (pN h 22 (2 * n)) B = n := ((cf_pN (S := fun _ _ => False) h 22 (2 * n)).L o).trans l
  have lN : zL (pN h 22 (2 * n)) (zn h) = 2 * n := va_up_at
  have eB : ∀ p, zE (pN h 22 (2 * n)) B p = zE h B p := fun p => (cf_pN (S := fun _ _ => False) h 22 (2 * n)).E o (fun z => z)
  have lt1 : nI (2 * n) < nI n ↔ 2 * n < n := zi_lt (by omega) (by omega)
  have mn : (if nI (2 * n) < nI n then nI (2 * n) else nI n) = nI n := if_neg (fun z => absurd (lt1.mp z) (by omega))
  have n5 : (nI n).toNatClampNeg = n := zi_nat (by omega)
  have g5 : ¬ nI n < 0 := zi_neg (by omega)
  refine ⟨pC (pN h 22 (2 * n)) B 0 (zn h) 0 n, ?_, ?_, oN, lN, fun p hp => ?_, rfl, rfl⟩
  · unfold f_J7_copyOf_59c91 bh
    rw [ck_yes o, if_neg d0, ck_yes h8, n1, ck_yes ⟨g1, by omega⟩]
    dsimp only
    rw [ck_yes oN, lB, mn, n5]
    rw [ck_yes ⟨⟨by decide, by decide, g5⟩, by show 0 + n ≤ _; omega, by show 0 + n ≤ zL _ (zn h); rw [lN]; omega⟩, ck_yes (fun i _ => fit22 _)]
    rfl
  · exact (cf_pN h 22 (2 * n)).tr2 (cf_pC (S := fun a _ => a = zn h) (fun _ => rfl)) (fun a j ha z => by omega)
  · rw [zE_pC, if_pos rfl, if_pos ⟨by omega, by omega⟩, eB]
    congr 1
    omega
/-- an outbox at x with its three rows -/
def obR (h : Hp) (x a b c n : Nat) (O : List (Nat × Nat × Nat)) : Prop := (isO h x 3 ∧ zR h 300 x = a ∧ zR h 301 x = b ∧ zR h 302 x = c) ∧ (isO h a 22 ∧ isO h b 22 ∧ isO h c 22) ∧ (a ≠ b ∧ a ≠ c ∧ b ≠ c ∧ a ≠ x ∧ b ≠ x ∧ c ≠ x) ∧ (zL h a = n ∧ zL h b = n ∧ zL h c = n) ∧ zI h 303 x = nI O.length ∧ ∀ (k : Nat) (m : Nat × Nat × Nat), O[k]? = some m → zE h a k = nI m.1 ∧ zE h b k = nI m.2.1 ∧ zE h c k = nI m.2.2
def obX (x a b c p j : Nat) : Prop := (p = x ∧ 300 ≤ j ∧ j ≤ 303) ∨ p = a ∨ p = b ∨ p = c
theorem c_ob63 {h : Hp} {x a b c n : Nat} {O : List (Nat × Nat × Nat)} (q : obR h x a b c n O) (hl : O.length < n) (hn : n < 1000000) (m : Nat × Nat × Nat) : ∃ h1, f_X2_add_63 x (nI m.1) (nI m.2.1) (nI m.2.2) h = some h1 ∧ obR h1 x a b c n (O ++ [m]) ∧ cf (obX x a b c) h h1 ∧ nz h h1 := by
  obtain ⟨⟨o, a1, a2, a3⟩, ⟨b1, b2, b3⟩, ⟨n1, n2, n3, n4, n5, n6⟩, ⟨l1, l2, l3⟩, e1, e2⟩ := q
  have nl : (nI O.length).toNatClampNeg = O.length := zi_nat (by omega)
  have gl : ¬ nI O.length < 0 := zi_neg (by omega)
  have ll : ¬ n ≤ O.length := by omega
  refine ⟨pI (pE (pE (pE h a O.length (nI m.1)) b O.length (nI m.2.1)) c O.length (nI m.2.2)) 303 x (nI (O.length + 1)), ?_, ⟨⟨o, a1, a2, a3⟩, ⟨b1, b2, b3⟩, ⟨n1, n2, n3, n4, n5, n6⟩, ⟨l1, l2, l3⟩, ?_, fun k y hk => ?_⟩, ?_, rfl⟩
  · simp only [f_X2_add_63, o10, o00, bh, isO, inR, ck_true, bind_some9, Nat.reduceLeDiff, Nat.reduceEqDiff, and_self, and_true, true_and, false_and, and_false, not_false_eq_true, not_true_eq_false, or_self, or_false, false_or, if_true, if_false, reduceIte, zR_pE, zT_pE, zL_pE, zn_pE, zE_pE, zI_pE, zQ_pE, zJ_pE, zR_pI, zT_pI, zL_pI, zn_pI, zE_pI, zI_pI, zQ_pI, zJ_pI, zR_pR, zT_pR, zL_pR, zn_pR, zE_pR, zI_pR, zQ_pR, zJ_pR, zR_pJ, zT_pJ, zL_pJ, zn_pJ, zE_pJ, zI_pJ, zQ_pJ, zJ_pJ, o, a1, a2, a3, b1, b2, b3, l1, l2, l3, e1, nl, gl, ll, zi_one]
  · rw [zI_pI, if_pos ⟨rfl, rfl⟩, List.length_append, List.length_singleton]
  · have hkl := (List.getElem?_eq_some_iff.mp hk).1
    rw [List.length_append, List.length_singleton] at hkl
    rw [zE_pI, zE_pI, zE_pI]
    by_cases ck9 : k = O.length
    · rw [ck9, List.getElem?_concat_length] at hk
      have hk := Option.some.inj hk
      rw [← hk, ck9]
      refine ⟨?_, ?_, ?_⟩
      · rw [zE_pE, if_neg (fun z => n2 z.1), zE_pE, if_neg (fun z => n1 z.1), zE_pE, if_pos ⟨rfl, rfl⟩]
      · rw [zE_pE, if_neg (fun z => n3 z.1), zE_pE, if_pos ⟨rfl, rfl⟩]
      · rw [zE_pE, if_pos ⟨rfl, rfl⟩]
    · rw [List.getElem?_append_left (by omega)] at hk
      obtain ⟨x1, x2, x3⟩ := e2 k y hk
      have oth : ∀ p, zE (pE (pE (pE h a O.length (nI m.1)) b O.length (nI m.2.1)) c O.length (nI m.2.2)) p k = zE h p k := fun p => by
        rw [zE_pE, if_neg (fun z => ck9 z.2), zE_pE, if_neg (fun z => ck9 z.2), zE_pE, if_neg (fun z => ck9 z.2)]
      rw [oth, oth, oth]
      exact ⟨x1, x2, x3⟩
  · exact (((cf_pE (Or.inr (Or.inl rfl))).tr (cf_pE (Or.inr (Or.inr (Or.inl rfl))))).tr (cf_pE (Or.inr (Or.inr (Or.inr rfl))))).tr (cf_pI (Or.inl ⟨rfl, by omega, by omega⟩))
theorem obR.on {h h1 : Hp} {x a b c n : Nat} {O : List (Nat × Nat × Nat)} {S : Nat → Nat → Prop} (q : obR h x a b c n O) (f : cf S h h1) (hS : ∀ p j, obX x a b c p j → ¬ S p j) : obR h1 x a b c n O := by
  obtain ⟨⟨o, a1, a2, a3⟩, ⟨b1, b2, b3⟩, ns, ⟨l1, l2, l3⟩, e1, e2⟩ := q
  refine ⟨⟨f.O o, (f.R o (hS _ _ (Or.inl ⟨rfl, by omega, by omega⟩))).trans a1, (f.R o (hS _ _ (Or.inl ⟨rfl, by omega, by omega⟩))).trans a2, (f.R o (hS _ _ (Or.inl ⟨rfl, by omega, by omega⟩))).trans a3⟩, ⟨f.O b1, f.O b2, f.O b3⟩, ns, ⟨(f.L b1).trans l1, (f.L b2).trans l2, (f.L b3).trans l3⟩, (f.I o (hS _ _ (Or.inl ⟨rfl, by omega, by omega⟩))).trans e1, fun k m hk => ?_⟩
  obtain ⟨x1, x2, x3⟩ := e2 k m hk
  exact ⟨(f.E b1 (hS _ _ (Or.inr (Or.inl rfl)))).trans x1, (f.E b2 (hS _ _ (Or.inr (Or.inr (Or.inl rfl))))).trans x2, (f.E b3 (hS _ _ (Or.inr (Or.inr (Or.inr rfl))))).trans x3⟩
theorem c_obAdd {h : Hp} {x a b c n : Nat} {O : List (Nat × Nat × Nat)} (q : obR h x a b c n O) (hl : O.length ≤ n) (hn1 : 1 ≤ n) (hn : n ≤ 100000) (m : Nat × Nat × Nat) : ∃ h1 a1 b1 c1 n1, f_X2_add x (nI m.1) (nI m.2.1) (nI m.2.2) h = some h1 ∧ obR h1 x a1 b1 c1 n1 (O ++ [m]) ∧ cf (obX x a b c) h h1 ∧ ((n1 = n ∧ a1 = a ∧ b1 = b ∧ c1 = c ∧ nz h h1 ∧ O.length < n) ∨ (n1 = 2 * n ∧ O.length = n ∧ a1 = zn h ∧ b1 = zn h + 1 ∧ c1 = zn h + 2 ∧ zn h1 = zn h + 3 ∧ zs h1 = zs h + 6 * n)) := by
  obtain ⟨⟨o, a1, a2, a3⟩, ⟨b1, b2, b3⟩, ⟨n1, n2, n3, n4, n5, n6⟩, ⟨l1, l2, l3⟩, e1, e2⟩ := id q
  have qn : nI O.length = nI n ↔ O.length = n := zi_eq (by omega) (by omega)
  by_cases cn : O.length = n
  · obtain ⟨g1, x1, x2, x3, x4, x5, x6, x7⟩ := c_grow22 b1 l1 hn1 hn
    have ox1 := x2.O o
    have fA : cf (fun p j => p = x ∧ j = 300) h (pR g1 300 x (zn h)) := (x2.mono (fun _ _ _ z => z.elim)).tr (cf_pR ⟨rfl, rfl⟩)
    have kb2 : isO (pR g1 300 x (zn h)) b 22 := fA.O b2
    have kl2 : zL (pR g1 300 x (zn h)) b = n := (fA.L b2).trans l2
    obtain ⟨g2, y1, y2, y3, y4, y5, y6, y7⟩ := c_grow22 kb2 kl2 hn1 hn
    have zA : zn (pR g1 300 x (zn h)) = zn h + 1 := x7
    rw [zA] at y1 y3 y4 y5 y7
    have fB : cf (fun p j => p = x ∧ (j = 300 ∨ j = 301)) h (pR g2 301 x (zn h + 1)) := (fA.mono (fun p j _ z => ⟨z.1, Or.inl z.2⟩)).tr ((y2.mono (fun _ _ _ z => z.elim)).tr (cf_pR ⟨rfl, Or.inr rfl⟩))
    have kb3 : isO (pR g2 301 x (zn h + 1)) c 22 := fB.O b3
    have kl3 : zL (pR g2 301 x (zn h + 1)) c = n := (fB.L b3).trans l3
    obtain ⟨g3, w1, w2, w3, w4, w5, w6, w7⟩ := c_grow22 kb3 kl3 hn1 hn
    have zB : zn (pR g2 301 x (zn h + 1)) = zn h + 2 := y7
    rw [zB] at w1 w3 w4 w5 w7
    have fC : cf (fun p j => p = x ∧ (j = 300 ∨ j = 301 ∨ j = 302)) h (pR g3 302 x (zn h + 2)) := (fB.mono (fun p j _ z => ⟨z.1, by omega⟩)).tr ((w2.mono (fun _ _ _ z => z.elim)).tr (cf_pR ⟨rfl, Or.inr (Or.inr rfl)⟩))
    have xz := o.2.1
    -- the three new rows
    have ga : isO (pR g3 302 x (zn h + 2)) (zn h) 22 := w2.O (show isO (pR g2 301 x (zn h + 1)) (zn h) 22 from y2.O (show isO (pR g1 300 x (zn h)) (zn h) 22 from x3))
    have gb : isO (pR g3 302 x (zn h + 2)) (zn h + 1) 22 := w2.O (show isO (pR g2 301 x (zn h + 1)) (zn h + 1) 22 from y3)
    have ea : ∀ p, p < n → zE (pR g3 302 x (zn h + 2)) (zn h) p = zE h a p := fun p hp => by
      have z1 : zE g3 (zn h) p = zE (pR g2 301 x (zn h + 1)) (zn h) p := w2.E (show isO (pR g2 301 x (zn h + 1)) (zn h) 22 from y2.O (show isO (pR g1 300 x (zn h)) (zn h) 22 from x3)) (fun z => z)
      have z2 : zE g2 (zn h) p = zE (pR g1 300 x (zn h)) (zn h) p := y2.E (show isO (pR g1 300 x (zn h)) (zn h) 22 from x3) (fun z => z)
      exact z1.trans (z2.trans (x5 p hp))
    have eb : ∀ p, p < n → zE (pR g3 302 x (zn h + 2)) (zn h + 1) p = zE h b p := fun p hp => by
      have z1 : zE g3 (zn h + 1) p = zE (pR g2 301 x (zn h + 1)) (zn h + 1) p := w2.E (show isO (pR g2 301 x (zn h + 1)) (zn h + 1) 22 from y3) (fun z => z)
      exact z1.trans ((y5 p hp).trans (fA.E b2 (fun z => n5 z.1)))
    have ec : ∀ p, p < n → zE (pR g3 302 x (zn h + 2)) (zn h + 2) p = zE h c p := fun p hp => (w5 p hp).trans (fB.E b3 (fun z => n6 z.1))
    have la : zL (pR g3 302 x (zn h + 2)) (zn h) = 2 * n := (w2.L (show isO (pR g2 301 x (zn h + 1)) (zn h) 22 from y2.O (show isO (pR g1 300 x (zn h)) (zn h) 22 from x3))).trans ((y2.L (show isO (pR g1 300 x (zn h)) (zn h) 22 from x3)).trans x4)
    have lb : zL (pR g3 302 x (zn h + 2)) (zn h + 1) = 2 * n := (w2.L (show isO (pR g2 301 x (zn h + 1)) (zn h + 1) 22 from y3)).trans y4
    have r0 : zR (pR g3 302 x (zn h + 2)) 300 x = zn h := by
      rw [zR_pR, if_neg (by omega)]
      rw [w2.R (show isO (pR g2 301 x (zn h + 1)) x 3 from fB.O o) (fun z => z), zR_pR, if_neg (by omega), y2.R (show isO (pR g1 300 x (zn h)) x 3 from fA.O o) (fun z => z), zR_pR, if_pos ⟨rfl, rfl⟩]
    have r1 : zR (pR g3 302 x (zn h + 2)) 301 x = zn h + 1 := by
      rw [zR_pR, if_neg (by omega)]
      rw [w2.R (show isO (pR g2 301 x (zn h + 1)) x 3 from fB.O o) (fun z => z), zR_pR, if_pos ⟨rfl, rfl⟩]
    have r2 : zR (pR g3 302 x (zn h + 2)) 302 x = zn h + 2 := by rw [zR_pR, if_pos ⟨rfl, rfl⟩]
    have q2 : obR (pR g3 302 x (zn h + 2)) x (zn h) (zn h + 1) (zn h + 2) (2 * n) O := by
      refine ⟨⟨fC.O o, r0, r1, r2⟩, ⟨ga, gb, w3⟩, ⟨by omega, by omega, by omega, by omega, by omega, by omega⟩, ⟨la, lb, w4⟩, (fC.I o (by omega)).trans e1, fun k mm hk => ?_⟩
      have hkl := (List.getElem?_eq_some_iff.mp hk).1
      obtain ⟨p1, p2, p3⟩ := e2 k mm hk
      rw [ea k (by omega), eb k (by omega), ec k (by omega)]
      exact ⟨p1, p2, p3⟩
    obtain ⟨h1, s1, s2, s3, s4⟩ := c_ob63 q2 (by omega) (by omega) m
    refine ⟨h1, zn h, zn h + 1, zn h + 2, 2 * n, ?_, s2, ?_, Or.inr ⟨rfl, cn, rfl, rfl, rfl, ?_, ?_⟩⟩
    · rw [← s1]
      have d0 := eq_true (qn.mpr cn)
      have e2n : (2 : Int32) * nI O.length = nI (2 * n) := by rw [cn]; exact zi_mul 2 n
      have r301 : zR (pR g1 300 x (zn h)) 301 x = b := (fA.R o (by omega)).trans a2
      have r302 : zR (pR g2 301 x (zn h + 1)) 302 x = c := (fB.R o (by omega)).trans a3
      have i301 : zI (pR g1 300 x (zn h)) 303 x = nI O.length := (fA.I o (by omega)).trans e1
      have i302 : zI (pR g2 301 x (zn h + 1)) 303 x = nI O.length := (fB.I o (by omega)).trans e1
      unfold f_X2_add
      rw [ck_yes o, a1, ck_yes b1, e1, l1, if_pos (qn.mpr cn), e2n, x1]
      dsimp only [Option.bind_some, bh]
      rw [ck_yes ox1, r301, i301, e2n, y1]
      dsimp only [Option.bind_some]
      rw [ck_yes (y2.O (show isO (pR g1 300 x (zn h)) x 3 from fA.O o)), r302, i302, e2n, w1]
      dsimp only [Option.bind_some]
      rw [ck_yes (w2.O (show isO (pR g2 301 x (zn h + 1)) x 3 from fB.O o))]
    · exact (fC.mono (fun p j _ z => Or.inl ⟨z.1, by omega, by omega⟩)).tr2 s3 (fun p j hp z => by unfold obX at z; show _ ∨ _; omega)
    · have z1 : h1.1 = g3.1 := s4
      have z2 : zn h1 = zn g3 := congrArg Prod.fst z1
      omega
    · have z1 : h1.1 = g3.1 := s4
      have z2 : zs h1 = zs g3 := congrArg Prod.snd z1
      have z3 : zs (pR g1 300 x (zn h)) = zs g1 := rfl
      have z4 : zs (pR g2 301 x (zn h + 1)) = zs g2 := rfl
      omega
  · obtain ⟨h1, s1, s2, s3, s4⟩ := c_ob63 q (by omega) (by omega) m
    refine ⟨h1, a, b, c, n, ?_, s2, s3, Or.inl ⟨rfl, rfl, rfl, rfl, s4, by omega⟩⟩
    rw [← s1]
    unfold f_X2_add
    rw [ck_yes o, a1, ck_yes b1, e1, l1, if_neg (fun z => cn (qn.mp z))]
def fbI (r : Option Nat) (k : Nat) : Int32 := match r with
  | none => -1
  | some j => nI (k + j)
theorem c_first_go {h : Hp} {x a b c n q : Nat} {O : List (Nat × Nat × Nat)} (ob : obR h x a b c n O) (hl : O.length ≤ n) (hn : n < 1000000) (hq : q < 1000000) (hO : ∀ m ∈ O, m.1 < 1000000) : ∀ (m k fuel : Nat), k + m = O.length → m < fuel → f_X2_firstBehind_2 fuel x (nI q - 1) (nI k) h = some (fbI ((O.drop k).findIdx? (fun m => decide (q ≤ m.1))) k, h)
  | m, k, 0, _, hf => absurd hf (Nat.not_lt_zero _)
  | 0, k, fuel + 1, hk, hf => by
    obtain ⟨⟨o, a1, a2, a3⟩, ⟨b1, b2, b3⟩, -, ⟨l1, l2, l3⟩, e1, e2⟩ := id ob
    have g2 : nI O.length ≤ nI k := (zi_le (by omega) (by omega)).mpr (by omega)
    rw [List.drop_of_length_le (by omega)]
    unfold f_X2_firstBehind_2
    rw [ck_yes o, e1, if_pos g2]
    rfl
  | m + 1, k, fuel + 1, hk, hf => by
    obtain ⟨⟨o, a1, a2, a3⟩, ⟨b1, b2, b3⟩, -, ⟨l1, l2, l3⟩, e1, e2⟩ := id ob
    have g2 : ¬ nI O.length ≤ nI k := zi_le0 (by omega) (by omega) (by omega)
    have nk : (nI k).toNatClampNeg = k := zi_nat (by omega)
    have gk : ¬ nI k < 0 := zi_neg (by omega)
    have lk : ¬ n ≤ k := by omega
    have hk2 : k < O.length := by omega
    have em := (e2 k _ (List.getElem?_eq_getElem hk2)).1
    have hb := hO _ (List.getElem_mem hk2)
    have ih := c_first_go ob hl hn hq hO m (k + 1) fuel (by omega) (by omega)
    rw [List.drop_eq_getElem_cons hk2, List.findIdx?_cons]
    generalize O[k]'hk2 = mm at *
    have key : nI mm.1 ≤ nI q - 1 ↔ ¬ q ≤ mm.1 := by
      cases q with
      | zero =>
        have : nI 0 - 1 = (-1 : Int32) := by decide
        rw [this]
        refine ⟨fun z => ?_, fun z => absurd (Nat.zero_le _) z⟩
        exfalso
        have z2 : nI mm.1 < 0 := Int32.lt_of_le_of_lt z (by decide)
        exact zi_neg (by omega) z2
      | succ q =>
        have : nI (q + 1) - 1 = nI q := zi_sub (b := 1) (by omega)
        rw [this, zi_le (by omega) (by omega)]
        omega
    by_cases cm : q ≤ mm.1
    · have d := eq_false (fun z => (key.mp z) cm)
      rw [if_pos (decide_eq_true cm)]
      simp only [f_X2_firstBehind_2, o10, o00, bh, isO, inR, ck_true, bind_some9, Nat.reduceLeDiff, Nat.reduceEqDiff, and_self, and_true, true_and, false_and, and_false, not_false_eq_true, not_true_eq_false, or_self, or_false, false_or, if_true, if_false, reduceIte, zR_pE, zT_pE, zL_pE, zn_pE, zE_pE, zI_pE, zQ_pE, zJ_pE, zR_pI, zT_pI, zL_pI, zn_pI, zE_pI, zI_pI, zQ_pI, zJ_pI, zR_pR, zT_pR, zL_pR, zn_pR, zE_pR, zI_pR, zQ_pR, zJ_pR, zR_pJ, zT_pJ, zL_pJ, zn_pJ, zE_pJ, zI_pJ, zQ_pJ, zJ_pJ, o, a1, b1, l1, e1, g2, nk, gk, lk, em, d]
      rfl
    · have d := eq_true (key.mpr cm)
      rw [if_neg (by rw [decide_eq_false cm]; exact fun z => Bool.noConfusion z)]
      have fin : ∀ r : Option Nat, fbI (Option.map (fun i => i + 1) r) k = fbI r (k + 1) := fun r => by
        cases r with
        | none => rfl
        | some j => show nI (k + (j + 1)) = nI (k + 1 + j); rw [show k + (j + 1) = k + 1 + j by omega]
      rw [fin, ← ih]
      simp only [f_X2_firstBehind_2, o10, o00, bh, isO, inR, ck_true, bind_some9, Nat.reduceLeDiff, Nat.reduceEqDiff, and_self, and_true, true_and, false_and, and_false, not_false_eq_true, not_true_eq_false, or_self, or_false, false_or, if_true, if_false, reduceIte, zR_pE, zT_pE, zL_pE, zn_pE, zE_pE, zI_pE, zQ_pE, zJ_pE, zR_pI, zT_pI, zL_pI, zn_pI, zE_pI, zI_pI, zQ_pI, zJ_pI, zR_pR, zT_pR, zL_pR, zn_pR, zE_pR, zI_pR, zQ_pR, zJ_pR, zR_pJ, zT_pJ, zL_pJ, zn_pJ, zE_pJ, zI_pJ, zQ_pJ, zJ_pJ, o, a1, b1, l1, e1, g2, nk, gk, lk, em, d, zi_one]
theorem c_first {h : Hp} {x a b c n q : Nat} {O : List (Nat × Nat × Nat)} (ob : obR h x a b c n O) (hl : O.length ≤ n) (hn : n < 1000000) (hq : q < 1000000) (hO : ∀ m ∈ O, m.1 < 1000000) (hO2 : O.length < 100000) : f_X2_firstBehind x (nI q - 1) h = some (fbI (O.findIdx? (fun m => decide (q ≤ m.1))) 0, h) := c_first_go ob hl hn hq hO O.length 0 fz (by omega) (fz_big (by omega))
/-- messages of a place leave -/
theorem c_remove_go {x a b c n : Nat} {O : List (Nat × Nat × Nat)} {p : Int32} (hl : O.length ≤ n) (hn : n < 1000000) : ∀ (m i fuel : Nat) (h : Hp) (K : List (Nat × Nat × Nat)), i + m = O.length → m < fuel → K = (O.take i).filter (fun m => nI m.1 ≠ p) → K.length ≤ i → ((isO h x 3 ∧ zR h 300 x = a ∧ zR h 301 x = b ∧ zR h 302 x = c) ∧ (isO h a 22 ∧ isO h b 22 ∧ isO h c 22) ∧ (a ≠ b ∧ a ≠ c ∧ b ≠ c ∧ a ≠ x ∧ b ≠ x ∧ c ≠ x) ∧ (zL h a = n ∧ zL h b = n ∧ zL h c = n) ∧ zI h 303 x = nI O.length) → (∀ (k : Nat) (m : Nat × Nat × Nat), K[k]? = some m → zE h a k = nI m.1 ∧ zE h b k = nI m.2.1 ∧ zE h c k = nI m.2.2) → (∀ (k : Nat) (m : Nat × Nat × Nat), i ≤ k → O[k]? = some m → zE h a k = nI m.1 ∧ zE h b k = nI m.2.1 ∧ zE h c k = nI m.2.2) → ∃ h1, f_X2_remove_4 fuel x p (nI K.length) (nI i) h = some h1 ∧ obR h1 x a b c n (O.filter (fun m => nI m.1 ≠ p)) ∧ cf (obX x a b c) h h1 ∧ nz h h1
  | m, i, 0, h, K, _, hf, _, _, _, _, _ => absurd hf (Nat.not_lt_zero _)
  | 0, i, fuel + 1, h, K, hi, hf, hK, hKi, ⟨⟨o, a1, a2, a3⟩, ⟨b1, b2, b3⟩, ns, ⟨l1, l2, l3⟩, e1⟩, e2, e3 => by
    have g2 : nI O.length ≤ nI i := (zi_le (by omega) (by omega)).mpr (by omega)
    rw [show i = O.length by omega, List.take_length] at hK
    refine ⟨pI h 303 x (nI K.length), ?_, ⟨⟨o, a1, a2, a3⟩, ⟨b1, b2, b3⟩, ns, ⟨l1, l2, l3⟩, ?_, fun k mm hk => ?_⟩, cf_pI (Or.inl ⟨rfl, by omega, by omega⟩), rfl⟩
    · unfold f_X2_remove_4
      rw [ck_yes o, e1, if_pos g2]
      rfl
    · rw [zI_pI, if_pos ⟨rfl, rfl⟩, hK]
    · rw [← hK] at hk
      exact e2 k mm hk
  | m + 1, i, fuel + 1, h, K, hi, hf, hK, hKi, ⟨⟨o, a1, a2, a3⟩, ⟨b1, b2, b3⟩, ⟨n1, n2, n3, n4, n5, n6⟩, ⟨l1, l2, l3⟩, e1⟩, e2, e3 => by
    have g2 : ¬ nI O.length ≤ nI i := zi_le0 (by omega) (by omega) (by omega)
    have ni : (nI i).toNatClampNeg = i := zi_nat (by omega)
    have gi : ¬ nI i < 0 := zi_neg (by omega)
    have li : ¬ n ≤ i := by omega
    have nK : (nI K.length).toNatClampNeg = K.length := zi_nat (by omega)
    have gK : ¬ nI K.length < 0 := zi_neg (by omega)
    have lK : ¬ n ≤ K.length := by omega
    have hi2 : i < O.length := by omega
    have eO := List.getElem?_eq_getElem hi2
    obtain ⟨x1, x2, x3⟩ := e3 i _ (Nat.le_refl _) eO
    have et : O.take (i + 1) = O.take i ++ [O[i]'hi2] := by rw [List.take_succ_eq_append_getElem hi2]
    generalize O[i]'hi2 = mm at *
    by_cases cm : nI mm.1 = p
    · have d := eq_true cm
      have hK2 : K = (O.take (i + 1)).filter (fun m => nI m.1 ≠ p) := by
        rw [et, List.filter_append, ← hK]
        have : [mm].filter (fun m => decide (nI m.1 ≠ p)) = [] := by
          rw [List.filter_cons, if_neg (by rw [decide_eq_false (fun z => z cm)]; exact fun z => Bool.noConfusion z)]
          rfl
        rw [this, List.append_nil]
      obtain ⟨h1, y1, y2⟩ := c_remove_go (p := p) hl hn m (i + 1) fuel h K (by omega) (by omega) hK2 (by omega) ⟨⟨o, a1, a2, a3⟩, ⟨b1, b2, b3⟩, ⟨n1, n2, n3, n4, n5, n6⟩, ⟨l1, l2, l3⟩, e1⟩ e2 (fun k m hk => e3 k m (by omega))
      refine ⟨h1, ?_, y2⟩
      rw [← y1]
      simp only [f_X2_remove_4, f_X2_remove_61, o10, o00, bh, isO, inR, ck_true, bind_some9, Nat.reduceLeDiff, Nat.reduceEqDiff, and_self, and_true, true_and, false_and, and_false, not_false_eq_true, not_true_eq_false, or_self, or_false, false_or, if_true, if_false, reduceIte, zR_pE, zT_pE, zL_pE, zn_pE, zE_pE, zI_pE, zQ_pE, zJ_pE, zR_pI, zT_pI, zL_pI, zn_pI, zE_pI, zI_pI, zQ_pI, zJ_pI, zR_pR, zT_pR, zL_pR, zn_pR, zE_pR, zI_pR, zQ_pR, zJ_pR, zR_pJ, zT_pJ, zL_pJ, zn_pJ, zE_pJ, zI_pJ, zQ_pJ, zJ_pJ, o, a1, b1, l1, e1, g2, ni, gi, li, x1, d, zi_one]
    · have d := eq_false cm
      have hK2 : K ++ [mm] = (O.take (i + 1)).filter (fun m => nI m.1 ≠ p) := by
        rw [et, List.filter_append, ← hK]
        have : [mm].filter (fun m => decide (nI m.1 ≠ p)) = [mm] := by
          rw [List.filter_cons, if_pos (decide_eq_true cm)]
          rfl
        rw [this]
      have lK2 : (K ++ [mm]).length = K.length + 1 := by rw [List.length_append, List.length_singleton]
      generalize hg : pE (pE (pE h a K.length (nI mm.1)) b K.length (nI mm.2.1)) c K.length (nI mm.2.2) = g
      have vals : ∀ q k, zE g q k = if q = c ∧ k = K.length then nI mm.2.2 else if q = b ∧ k = K.length then nI mm.2.1 else if q = a ∧ k = K.length then nI mm.1 else zE h q k := fun q k => by rw [← hg, zE_pE, zE_pE, zE_pE]
      have va : ∀ k, zE g a k = if k = K.length then nI mm.1 else zE h a k := fun k => by
        rw [vals, if_neg (fun z => n2 z.1), if_neg (fun z => n1 z.1)]
        by_cases ck9 : k = K.length
        · rw [if_pos ⟨rfl, ck9⟩, if_pos ck9]
        · rw [if_neg (fun z => ck9 z.2), if_neg ck9]
      have vb : ∀ k, zE g b k = if k = K.length then nI mm.2.1 else zE h b k := fun k => by
        rw [vals, if_neg (fun z => n3 z.1)]
        by_cases ck9 : k = K.length
        · rw [if_pos ⟨rfl, ck9⟩, if_pos ck9]
        · rw [if_neg (fun z => ck9 z.2), if_neg (fun z => ck9 z.2), if_neg ck9]
      have vc : ∀ k, zE g c k = if k = K.length then nI mm.2.2 else zE h c k := fun k => by
        rw [vals]
        by_cases ck9 : k = K.length
        · rw [if_pos ⟨rfl, ck9⟩, if_pos ck9]
        · rw [if_neg (fun z => ck9 z.2), if_neg (fun z => ck9 z.2), if_neg (fun z => ck9 z.2), if_neg ck9]
      have fg : cf (obX x a b c) h g := by
        rw [← hg]
        exact ((cf_pE (Or.inr (Or.inl rfl))).tr (cf_pE (Or.inr (Or.inr (Or.inl rfl))))).tr (cf_pE (Or.inr (Or.inr (Or.inr rfl))))
      have st : (isO g x 3 ∧ zR g 300 x = a ∧ zR g 301 x = b ∧ zR g 302 x = c) ∧ (isO g a 22 ∧ isO g b 22 ∧ isO g c 22) ∧ (a ≠ b ∧ a ≠ c ∧ b ≠ c ∧ a ≠ x ∧ b ≠ x ∧ c ≠ x) ∧ (zL g a = n ∧ zL g b = n ∧ zL g c = n) ∧ zI g 303 x = nI O.length := by
        rw [← hg]
        exact ⟨⟨o, a1, a2, a3⟩, ⟨b1, b2, b3⟩, ⟨n1, n2, n3, n4, n5, n6⟩, ⟨l1, l2, l3⟩, e1⟩
      obtain ⟨h1, y1, y2, y3, y4⟩ := c_remove_go (p := p) hl hn m (i + 1) fuel g (K ++ [mm]) (by omega) (by omega) hK2 (by omega) st (fun k m9 hk => by
        have hkl := (List.getElem?_eq_some_iff.mp hk).1
        rw [va, vb, vc]
        by_cases ck9 : k = K.length
        · rw [if_pos ck9, if_pos ck9, if_pos ck9]
          rw [ck9, List.getElem?_concat_length] at hk
          rw [Option.some.inj hk]
          exact ⟨rfl, rfl, rfl⟩
        · rw [if_neg ck9, if_neg ck9, if_neg ck9]
          rw [List.getElem?_append_left (by omega)] at hk
          exact e2 k m9 hk) (fun k m9 hk hm => by
        rw [va, vb, vc, if_neg (by omega), if_neg (by omega), if_neg (by omega)]
        exact e3 k m9 (by omega) hm)
      have gnz : nz h g := by rw [← hg]; rfl
      refine ⟨h1, ?_, y2, fg.tr y3, gnz.tr y4⟩
      rw [← y1, ← hg, lK2]
      have eb1 : zE (pE h a K.length (nI mm.1)) b i = nI mm.2.1 := by rw [zE_pE, if_neg (fun z => n1 z.1.symm)]; exact x2
      have ec1 : zE (pE (pE h a K.length (nI mm.1)) b K.length (nI mm.2.1)) c i = nI mm.2.2 := by rw [zE_pE, if_neg (fun z => n3 z.1.symm), zE_pE, if_neg (fun z => n2 z.1.symm)]; exact x3
      have nab : (b = a) = False := eq_false (fun z => n1 z.symm)
      have nac : (c = a) = False := eq_false (fun z => n2 z.symm)
      have nbc : (c = b) = False := eq_false (fun z => n3 z.symm)
      simp only [f_X2_remove_4, f_X2_remove_61, o10, o00, bh, isO, inR, ck_true, bind_some9, Nat.reduceLeDiff, Nat.reduceEqDiff, and_self, and_true, true_and, false_and, and_false, not_false_eq_true, not_true_eq_false, or_self, or_false, false_or, if_true, if_false, reduceIte, zR_pE, zT_pE, zL_pE, zn_pE, zE_pE, zI_pE, zQ_pE, zJ_pE, zR_pI, zT_pI, zL_pI, zn_pI, zE_pI, zI_pI, zQ_pI, zJ_pI, zR_pR, zT_pR, zL_pR, zn_pR, zE_pR, zI_pR, zQ_pR, zJ_pR, zR_pJ, zT_pJ, zL_pJ, zn_pJ, zE_pJ, zI_pJ, zQ_pJ, zJ_pJ, o, a1, a2, a3, b1, b2, b3, l1, l2, l3, e1, g2, ni, gi, li, nK, gK, lK, x1, x2, x3, d, nab, nac, nbc, zi_one]
theorem c_remove {h : Hp} {x a b c n : Nat} {O : List (Nat × Nat × Nat)} {p : Int32} (ob : obR h x a b c n O) (hl : O.length ≤ n) (hn : n < 1000000) (hO : O.length < 100000) : ∃ h1, f_X2_remove x p h = some h1 ∧ obR h1 x a b c n (O.filter (fun m => nI m.1 ≠ p)) ∧ cf (obX x a b c) h h1 ∧ nz h h1 := by
  obtain ⟨s1, s2, s3, s4, s5, s6⟩ := ob
  obtain ⟨h1, y⟩ := c_remove_go (p := p) hl hn O.length 0 fz h [] (by omega) (fz_big (by omega)) rfl (Nat.le_refl _) ⟨s1, s2, s3, s4, s5⟩ (fun k m hk => by simp at hk) (fun k m _ hk => s6 k m hk)
  exact ⟨h1, y⟩
/-! A ROW IS OPENED, IN THE CLASS -/
theorem c_fill_go {w : Nat} : ∀ (m i fuel : Nat) (h : Hp), isO h (w + 1) 22 → zL h (w + 1) = 8 → i + m = 8 → m < fuel → (∀ v, v < i → zE h (w + 1) v = 0) → ∃ h1, f_J7_fill_53178_5 fuel (w + 1) 0 (nI i) (nI 8) h = some h1 ∧ (∀ v, v < 8 → zE h1 (w + 1) v = 0) ∧ cf (fun a _ => a = w + 1) h h1 ∧ nz h h1
  | m, i, 0, h, _, _, _, hf, _ => absurd hf (Nat.not_lt_zero _)
  | 0, i, fuel + 1, h, o, l, hi, hf, hz => by
    have c : nI 8 ≤ nI i := (zi_le (by omega) (by omega)).mpr (by omega)
    refine ⟨h, ?_, fun v hv => hz v (by omega), cf.rf h, rfl⟩
    unfold f_J7_fill_53178_5
    rw [if_pos c]
  | m + 1, i, fuel + 1, h, o, l, hi, hf, hz => by
    have c : ¬ nI 8 ≤ nI i := zi_le0 (by omega) (by omega) (by omega)
    have ni : (nI i).toNatClampNeg = i := zi_nat (by omega)
    have gi : ¬ nI i < 0 := zi_neg (by omega)
    have li : ¬ 8 ≤ i := by omega
    have f1 : cf (fun a _ => a = w + 1) h (pE h (w + 1) i 0) := cf_pE rfl
    obtain ⟨h1, x1, x2, x3, x4⟩ := c_fill_go m (i + 1) fuel (pE h (w + 1) i 0) o l (by omega) (by omega) (fun v hv => by
      rw [zE_pE]
      split
      · rfl
      · next z => exact hz v (by
          rcases Nat.lt_or_ge v i with y | y
          · exact y
          · exact absurd ⟨rfl, by omega⟩ z))
    refine ⟨h1, ?_, x2, f1.tr x3, x4⟩
    rw [← x1]
    simp only [f_J7_fill_53178_5, o10, o00, bh, isO, inR, ck_true, bind_some9, Nat.reduceLeDiff, Nat.reduceEqDiff, and_self, and_true, true_and, false_and, and_false, not_false_eq_true, not_true_eq_false, or_self, or_false, false_or, if_true, if_false, reduceIte, zR_pE, zT_pE, zL_pE, zn_pE, zE_pE, zI_pE, zQ_pE, zJ_pE, zR_pI, zT_pI, zL_pI, zn_pI, zE_pI, zI_pI, zQ_pI, zJ_pI, zR_pR, zT_pR, zL_pR, zn_pR, zE_pR, zI_pR, zQ_pR, zJ_pR, zR_pJ, zT_pJ, zL_pJ, zn_pJ, zE_pJ, zI_pJ, zQ_pJ, zJ_pJ, c, o, l, ni, gi, li, zi_one]
def opX (w a j : Nat) : Prop := tkX w a j ∨ (a = w ∧ j = 1004)
theorem c_open {h : Hp} {w num : Nat} {f : Flw} (q : wfC h w num f) (P : Prg) (pa : Nat) (a x o : Int32) : ∃ h1, f_X9_open w pa a x o h = some h1 ∧ wfC h1 w num (flOpen f P a x o) ∧ zR h1 1004 w = pa ∧ cf (opX w) h h1 ∧ nz h h1 := by
  obtain ⟨t, qh, qw, qk⟩ := q
  have fA : cf (opX w) h (pI (pR h 1004 w pa) 204 (w + 2) 0) := (cf_pR (Or.inr ⟨rfl, rfl⟩)).tr (cf_pI (Or.inl (Or.inr (Or.inl (Or.inl ⟨rfl, rfl⟩)))))
  have TA : wfT (pI (pR h 1004 w pa) 204 (w + 2) 0) w num := t.on fA (fun j _ _ => by unfold opX tkX wkX hsX; omega) (fun j _ _ => by unfold opX tkX wkX hsX; omega)
  have qA : hsD (pI (pR h 1004 w pa) 204 (w + 2) 0) w [] := ⟨⟨by rw [zI_pI, if_pos ⟨rfl, rfl⟩]; rfl, by simp⟩, fun k e hk => by simp at hk⟩
  obtain ⟨h1, x1, x2, x3, x4⟩ := c_add TA qA (by simp) (0, a, x, o)
  have x1 : f_X1_add (w + 2) 0 a x o (pI (pR h 1004 w pa) 204 (w + 2) 0) = some h1 := x1
  have T1 := TA.on x3 (fun j _ _ => by unfold hsX; omega) (fun j _ _ => by unfold hsX; omega)
  obtain ⟨h2, y1, y2, y3, y4⟩ := c_fill_go (w := w) 8 0 fz h1 T1.2.1.1 T1.2.1.2 (by omega) (fz_big (by omega)) (fun v hv => absurd hv (Nat.not_lt_zero _))
  have T2 := T1.on y3 (fun j _ _ => by omega) (fun j _ _ => by omega)
  generalize hg : pI (pI (pI (pI (pI (pI (pI (pE h2 (w + 1) 0 x) 904 (w + 7) 0) 1005 w 0) 1006 w 0) 1007 w 5) 1009 w 0) 1010 w 0) 1011 w 0 = g
  have fz2 : cf (fun p j => wkX w p j ∨ p = w + 7) h2 g := by
    rw [← hg]
    exact (((((((cf_pE (Or.inl (Or.inr rfl))).tr (cf_pI (Or.inr rfl))).tr (cf_pI (Or.inl (Or.inl ⟨rfl, by omega, by omega⟩)))).tr (cf_pI (Or.inl (Or.inl ⟨rfl, by omega, by omega⟩)))).tr (cf_pI (Or.inl (Or.inl ⟨rfl, by omega, by omega⟩)))).tr (cf_pI (Or.inl (Or.inl ⟨rfl, by omega, by omega⟩)))).tr (cf_pI (Or.inl (Or.inl ⟨rfl, by omega, by omega⟩)))).tr (cf_pI (Or.inl (Or.inl ⟨rfl, by omega, by omega⟩)))
  have gI : ∀ f9 p, zI g f9 p = if f9 = 1011 ∧ p = w then 0 else if f9 = 1010 ∧ p = w then 0 else if f9 = 1009 ∧ p = w then 0 else if f9 = 1007 ∧ p = w then 5 else if f9 = 1006 ∧ p = w then 0 else if f9 = 1005 ∧ p = w then 0 else if f9 = 904 ∧ p = w + 7 then 0 else zI h2 f9 p := fun f9 p => by
    rw [← hg, zI_pI, zI_pI, zI_pI, zI_pI, zI_pI, zI_pI, zI_pI]
    rfl
  have gnz : nz h2 g := by rw [← hg]; rfl
  have fall : cf (opX w) h g := ((fA.tr (x3.mono (fun p j _ z => Or.inl (Or.inr (Or.inl z))))).tr (y3.mono (fun p j _ z => Or.inl (Or.inl (Or.inr z))))).tr (fz2.mono (fun p j _ z => z.elim (fun z => Or.inl (Or.inl z)) (fun z => Or.inl (Or.inr (Or.inr z)))))
  have fxy : cf (fun p j => hsX w p j ∨ p = w + 1) (pI (pR h 1004 w pa) 204 (w + 2) 0) h2 := (x3.mono (fun p j _ z => Or.inl z)).tr (y3.mono (fun p j _ z => Or.inr z))
  refine ⟨g, ?_, ⟨t.on fall (fun j _ _ => by unfold opX tkX wkX hsX; omega) (fun j _ _ => by unfold opX tkX wkX hsX; omega), ?_, ?_, ?_⟩, ?_, fall, ((show nz h (pI (pR h 1004 w pa) 204 (w + 2) 0) from rfl).tr x4).tr (y4.tr gnz)⟩
  · obtain ⟨⟨t1, t2, t3, t4, t5⟩, -, ⟨c1, -⟩, -⟩ := id t
    obtain ⟨⟨u1, u2, u3, u4, u5⟩, ⟨v1, v2⟩, -⟩ := id T1
    obtain ⟨⟨w1, w2, w3, w4, w5⟩, ⟨z1, z2⟩, -, -, -, z9⟩ := id T2
    have e8 : f_J7_fill_53178 (w + 1) 0 h1 = some h2 := by
      unfold f_J7_fill_53178 bh
      rw [ck_yes v1, v2, ← y1]
      exact congrArg (fun z => f_J7_fill_53178_5 fz (w + 1) 0 z (nI 8) h1) zi_zero
    have n00 : (0 : Int32).toNatClampNeg = 0 := rfl
    have g00 : ¬ (0 : Int32) < 0 := by decide
    have l08 : ¬ 8 ≤ 0 := by omega
    rw [← hg]
    simp only [f_X9_open, o10, o00, bh, isO, inR, ck_true, bind_some9, Nat.reduceLeDiff, Nat.reduceEqDiff, and_self, and_true, true_and, false_and, and_false, not_false_eq_true, not_true_eq_false, or_self, or_false, false_or, if_true, if_false, reduceIte, zR_pE, zT_pE, zL_pE, zn_pE, zE_pE, zI_pE, zQ_pE, zJ_pE, zR_pI, zT_pI, zL_pI, zn_pI, zE_pI, zI_pI, zQ_pI, zJ_pI, zR_pR, zT_pR, zL_pR, zn_pR, zE_pR, zI_pR, zQ_pR, zJ_pR, zR_pJ, zT_pJ, zL_pJ, zn_pJ, zE_pJ, zI_pJ, zQ_pJ, zJ_pJ, t1, t4, c1, x1, u1, u3, e8, w1, w3, w5, z1, z2, z9, n00, g00, l08]
  · have q2 : hsD h2 w [(0, a, x, o)] := x2.on T1 y3 (by omega) (fun p j _ _ => by omega)
    exact q2.on T2 fz2 (by unfold wkX; omega) (fun p j _ _ => by unfold wkX; omega)
  · refine ⟨fun v hv => ?_, ?_, ?_, ?_, fun z => absurd z (by show ¬ (5 = 1 ∨ 5 = 3); decide), ?_, ?_, ?_⟩
    · have : zE g (w + 1) v = zE (pE h2 (w + 1) 0 x) (w + 1) v := by rw [← hg]; rfl
      rw [this, zE_pE]
      show _ = upf (fun _ => 0) 0 x v
      unfold upf
      by_cases c0 : v = 0
      · rw [if_pos ⟨rfl, c0⟩, if_pos c0]
      · rw [if_neg (fun z => c0 z.2), if_neg c0]; exact y2 v hv
    · rw [gI, if_neg (by omega), if_neg (by omega), if_neg (by omega), if_neg (by omega), if_neg (by omega), if_pos ⟨rfl, rfl⟩]; rfl
    · rw [gI, if_neg (by omega), if_neg (by omega), if_neg (by omega), if_neg (by omega), if_pos ⟨rfl, rfl⟩]; rfl
    · rw [gI, if_neg (by omega), if_neg (by omega), if_neg (by omega), if_pos ⟨rfl, rfl⟩]; rfl
    · rw [gI, if_neg (by omega), if_neg (by omega), if_pos ⟨rfl, rfl⟩]; rfl
    · rw [gI, if_neg (by omega), if_pos ⟨rfl, rfl⟩]; rfl
    · rw [gI, if_pos ⟨rfl, rfl⟩]; rfl
  · have qk2 : tkD h2 w (flT f) := by
      have qkA : tkD (pI (pR h 1004 w pa) 204 (w + 2) 0) w (flT f) := by
        obtain ⟨k1, k2, k3, k4, k5, k6⟩ := qk
        refine ⟨?_, ?_, ?_, ?_, ?_, ?_⟩
        all_goals (rw [zI_pI, if_neg (by omega), zI_pR]; assumption)
      exact qkA.on TA fxy (fun j => by unfold hsX; omega)
    obtain ⟨k1, k2, k3, k4, k5, k6⟩ := qk2
    have oth : ∀ f9, f9 ≠ 904 → zI g f9 (w + 7) = zI h2 f9 (w + 7) := fun f9 hf => by
      rw [gI, if_neg (by omega), if_neg (by omega), if_neg (by omega), if_neg (by omega), if_neg (by omega), if_neg (by omega), if_neg (by omega)]
    refine ⟨(oth _ (by omega)).trans k1, (oth _ (by omega)).trans k2, (oth _ (by omega)).trans k3, (oth _ (by omega)).trans k4, ?_, (oth _ (by omega)).trans k6⟩
    rw [gI, if_neg (by omega), if_neg (by omega), if_neg (by omega), if_neg (by omega), if_neg (by omega), if_neg (by omega), if_pos ⟨rfl, rfl⟩]
    rfl
  · have e1 : zR g 1004 w = zR h2 1004 w := fz2.R T2.1.1 (by unfold wkX; omega)
    have e2 : zR h2 1004 w = zR (pI (pR h 1004 w pa) 204 (w + 2) 0) 1004 w := fxy.R TA.1.1 (by unfold hsX; omega)
    rw [e1, e2, zR_pI, zR_pR, if_pos ⟨rfl, rfl⟩]
