/-! THE OUTBOX, IN THE REFERENCE -/
def outI (s k : Nat) (r : Option Nat) : Int32 := match r with
  | none => -1
  | some j => nI (1024 * s + (k + j))
theorem w_outOf_go {h : Hp} (H : RF h) {s p : Nat} {O : List (Nat × Nat × Nat)} (hs : s < 4) (ob : obAt h s O) (hp : p < 100000) (hO : ∀ m ∈ O, m.1 < 100000) : ∀ (m k fuel : Nat), k + m = O.length → m < fuel → f_X11_outOf_6 fuel 616 (nI s) (nI p) (nI (1024 * s + k)) h = some (outI s k ((O.drop k).findIdx? (fun m => decide (m.1 = p))), h)
  | m, k, 0, _, hf => absurd hf (Nat.not_lt_zero _)
  | 0, k, fuel + 1, hk, hf => by
    obtain ⟨o1, o2, o3⟩ := ob
    have c : nI (1024 * s + O.length) ≤ nI (1024 * s + k) := (zi_le (by omega) (by omega)).mpr (by omega)
    have nx : (nI s).toNatClampNeg = s := zi_nat (by omega)
    have gx : ¬ nI s < 0 := zi_neg (by omega)
    have lx : ¬ 4 ≤ s := by omega
    rw [List.drop_of_length_le (by omega)]
    simp only [f_X11_outOf_6, o10, o00, bh, isO, inR, ck_true, bind_some9, Nat.reduceLeDiff, Nat.reduceEqDiff, and_self, and_true, true_and, false_and, and_false, not_false_eq_true, not_true_eq_false, or_self, or_false, false_or, if_true, if_false, reduceIte, RF_o H, RF_1257 H, RO_665 H, RL_665 H, RF_1258 H, RO_666 H, RL_666 H, zR_pE, zT_pE, zL_pE, zn_pE, zE_pE, zI_pE, zR_pI, zT_pI, zL_pI, zn_pI, zE_pI, zI_pI, nx, gx, lx, o1, zi_1024, c]
    rfl
  | m + 1, k, fuel + 1, hk, hf => by
    obtain ⟨o1, o2, o3⟩ := id ob
    have c : ¬ nI (1024 * s + O.length) ≤ nI (1024 * s + k) := zi_le0 (by omega) (by omega) (by omega)
    have nx : (nI s).toNatClampNeg = s := zi_nat (by omega)
    have gx : ¬ nI s < 0 := zi_neg (by omega)
    have lx : ¬ 4 ≤ s := by omega
    have nk : (nI (1024 * s + k)).toNatClampNeg = 1024 * s + k := zi_nat (by omega)
    have gk : ¬ nI (1024 * s + k) < 0 := zi_neg (by omega)
    have lk : ¬ 4096 ≤ 1024 * s + k := by omega
    have hk2 : k < O.length := by omega
    have hm : O[k]? = some (O[k]'hk2) := List.getElem?_eq_getElem hk2
    have e66 := (o3 k _ hm).1
    have hb := hO _ (List.getElem_mem hk2)
    have q : nI (O[k]'hk2).1 = nI p ↔ (O[k]'hk2).1 = p := zi_eq (by omega) (by omega)
    have ih := w_outOf_go H hs ob hp hO m (k + 1) fuel (by omega) (by omega)
    rw [List.drop_eq_getElem_cons hk2, List.findIdx?_cons]
    generalize O[k]'hk2 = mm at *
    by_cases cm : mm.1 = p
    · have d := eq_true (q.mpr cm)
      rw [if_pos (decide_eq_true cm)]
      simp only [f_X11_outOf_6, o10, o00, bh, isO, inR, ck_true, bind_some9, Nat.reduceLeDiff, Nat.reduceEqDiff, and_self, and_true, true_and, false_and, and_false, not_false_eq_true, not_true_eq_false, or_self, or_false, false_or, if_true, if_false, reduceIte, RF_o H, RF_1257 H, RO_665 H, RL_665 H, RF_1258 H, RO_666 H, RL_666 H, zR_pE, zT_pE, zL_pE, zn_pE, zE_pE, zI_pE, zR_pI, zT_pI, zL_pI, zn_pI, zE_pI, zI_pI, nx, gx, lx, o1, zi_1024, c, nk, gk, lk, e66, d]
      rfl
    · have d := eq_false (fun z => cm (q.mp z))
      rw [if_neg (by rw [decide_eq_false cm]; exact fun z => Bool.noConfusion z)]
      have e1 : nI (1024 * s + k) + 1 = nI (1024 * s + (k + 1)) := zi_add _ 1
      have fin : some (outI s k (Option.map (fun i => i + 1) ((O.drop (k + 1)).findIdx? (fun m => decide (m.1 = p)))), h) = some (outI s (k + 1) ((O.drop (k + 1)).findIdx? (fun m => decide (m.1 = p))), h) := by
        cases (O.drop (k + 1)).findIdx? (fun m => decide (m.1 = p)) with
        | none => rfl
        | some j =>
          show some (nI (1024 * s + (k + (j + 1))), h) = some (nI (1024 * s + (k + 1 + j)), h)
          rw [show k + (j + 1) = k + 1 + j by omega]
      rw [fin, ← ih]
      simp only [f_X11_outOf_6, o10, o00, bh, isO, inR, ck_true, bind_some9, Nat.reduceLeDiff, Nat.reduceEqDiff, and_self, and_true, true_and, false_and, and_false, not_false_eq_true, not_true_eq_false, or_self, or_false, false_or, if_true, if_false, reduceIte, RF_o H, RF_1257 H, RO_665 H, RL_665 H, RF_1258 H, RO_666 H, RL_666 H, zR_pE, zT_pE, zL_pE, zn_pE, zE_pE, zI_pE, zR_pI, zT_pI, zL_pI, zn_pI, zE_pI, zI_pI, nx, gx, lx, o1, zi_1024, c, nk, gk, lk, e66, d, e1]
theorem w_outOf {h : Hp} (H : RF h) {s p : Nat} {O : List (Nat × Nat × Nat)} (hs : s < 4) (ob : obAt h s O) (hp : p < 100000) (hO : ∀ m ∈ O, m.1 < 100000) : f_X11_outOf 616 (nI s) (nI p) h = some (outI s 0 (O.findIdx? (fun m => decide (m.1 = p))), h) := by
  have o2 := ob.2.1
  have e := w_outOf_go H hs ob hp hO O.length 0 fz (by omega) (fz_big (by omega))
  rw [List.drop_zero] at e
  unfold f_X11_outOf bh
  rw [show (1024 : Int32) * nI s = nI (1024 * s + 0) from zi_mul 1024 s]
  exact e
/-- one leaves, those behind it move up -/
theorem w_leaves_12 {s M : Nat} (hs : s < 4) (hM : M < 1000) : ∀ (m j fuel : Nat) (h : Hp), RF h → zE h 665 s = nI M → j + m = M → m < fuel → ∃ h1, f_X11_leaves_12 fuel 616 (nI s) (nI (1024 * s + j)) h = some h1 ∧ frx (fun a i => (a = 666 ∨ a = 667 ∨ a = 668) ∧ i / 1024 = s) h h1 ∧ ∀ a, (a = 666 ∨ a = 667 ∨ a = 668) → ∀ k, k ≤ M → zE h1 a (1024 * s + k) = if j ≤ k ∧ k < M then zE h a (1024 * s + (k + 1)) else zE h a (1024 * s + k)
  | m, j, 0, h, _, _, _, hf => absurd hf (Nat.not_lt_zero _)
  | 0, j, fuel + 1, h, H, e65, hj, hf => by
    have c : nI (1024 * s + M) ≤ nI (1024 * s + j) := (zi_le (by omega) (by omega)).mpr (by omega)
    have nx : (nI s).toNatClampNeg = s := zi_nat (by omega)
    have gx : ¬ nI s < 0 := zi_neg (by omega)
    have lx : ¬ 4 ≤ s := by omega
    refine ⟨h, ?_, frx.rf h, fun a ha k hk => by rw [if_neg (by omega)]⟩
    simp only [f_X11_leaves_12, o10, o00, bh, isO, inR, ck_true, bind_some9, Nat.reduceLeDiff, Nat.reduceEqDiff, and_self, and_true, true_and, false_and, and_false, not_false_eq_true, not_true_eq_false, or_self, or_false, false_or, if_true, if_false, reduceIte, RF_o H, RF_1257 H, RO_665 H, RL_665 H, RF_1258 H, RO_666 H, RL_666 H, RF_1259 H, RO_667 H, RL_667 H, RF_1260 H, RO_668 H, RL_668 H, zR_pE, zT_pE, zL_pE, zn_pE, zE_pE, zI_pE, zR_pI, zT_pI, zL_pI, zn_pI, zE_pI, zI_pI, nx, gx, lx, e65, zi_1024, c]
  | m + 1, j, fuel + 1, h, H, e65, hj, hf => by
    have c : ¬ nI (1024 * s + M) ≤ nI (1024 * s + j) := zi_le0 (by omega) (by omega) (by omega)
    have nx : (nI s).toNatClampNeg = s := zi_nat (by omega)
    have gx : ¬ nI s < 0 := zi_neg (by omega)
    have lx : ¬ 4 ≤ s := by omega
    have nk : (nI (1024 * s + j)).toNatClampNeg = 1024 * s + j := zi_nat (by omega)
    have gk : ¬ nI (1024 * s + j) < 0 := zi_neg (by omega)
    have lk : ¬ 4096 ≤ 1024 * s + j := by omega
    have e1 : nI (1024 * s + j) + 1 = nI (1024 * s + (j + 1)) := zi_add _ 1
    have n2 : (nI (1024 * s + (j + 1))).toNatClampNeg = 1024 * s + (j + 1) := zi_nat (by omega)
    have g2 : ¬ nI (1024 * s + (j + 1)) < 0 := zi_neg (by omega)
    have l2 : ¬ 4096 ≤ 1024 * s + (j + 1) := by omega
    generalize hh : pE (pE (pE h 666 (1024 * s + j) (zE h 666 (1024 * s + (j + 1)))) 667 (1024 * s + j) (zE h 667 (1024 * s + (j + 1)))) 668 (1024 * s + j) (zE h 668 (1024 * s + (j + 1))) = h9
    have f1 : frx (fun a i => (a = 666 ∨ a = 667 ∨ a = 668) ∧ i / 1024 = s) h h9 := by
      rw [← hh]
      exact ((frx_pE ⟨by omega, by omega⟩).trans (frx_pE ⟨by omega, by omega⟩)).trans (frx_pE ⟨by omega, by omega⟩)
    have vals : ∀ a, (a = 666 ∨ a = 667 ∨ a = 668) → ∀ k, zE h9 a (1024 * s + k) = if k = j then zE h a (1024 * s + (j + 1)) else zE h a (1024 * s + k) := fun a ha k => by
      rw [← hh]
      by_cases ck : k = j
      · rw [if_pos ck, ck]
        rcases ha with ha | ha | ha <;> rw [ha]
        · rw [zE_pE, if_neg (by omega), zE_pE, if_neg (by omega), zE_pE, if_pos ⟨rfl, rfl⟩]
        · rw [zE_pE, if_neg (by omega), zE_pE, if_pos ⟨rfl, rfl⟩]
        · rw [zE_pE, if_pos ⟨rfl, rfl⟩]
      · rw [if_neg ck, zE_pE, if_neg (by omega), zE_pE, if_neg (by omega), zE_pE, if_neg (by omega)]
    obtain ⟨h1, a1, a2, a3⟩ := w_leaves_12 hs hM m (j + 1) fuel h9 (H.on f1) (by rw [f1.2.2.2 665 _ (by omega)]; exact e65) (by omega) (by omega)
    refine ⟨h1, ?_, f1.trans a2, fun a ha k hk => ?_⟩
    · rw [← a1, ← hh]
      simp only [f_X11_leaves_12, o10, o00, bh, isO, inR, ck_true, bind_some9, Nat.reduceLeDiff, Nat.reduceEqDiff, and_self, and_true, true_and, false_and, and_false, not_false_eq_true, not_true_eq_false, or_self, or_false, false_or, if_true, if_false, reduceIte, RF_o H, RF_1257 H, RO_665 H, RL_665 H, RF_1258 H, RO_666 H, RL_666 H, RF_1259 H, RO_667 H, RL_667 H, RF_1260 H, RO_668 H, RL_668 H, zR_pE, zT_pE, zL_pE, zn_pE, zE_pE, zI_pE, zR_pI, zT_pI, zL_pI, zn_pI, zE_pI, zI_pI, nx, gx, lx, e65, zi_1024, c, e1, n2, g2, l2, nk, gk, lk]
    · rw [a3 a ha k hk]
      by_cases c1 : j + 1 ≤ k ∧ k < M
      · rw [if_pos c1, if_pos (by omega), vals a ha (k + 1), if_neg (by omega)]
      · rw [if_neg c1, vals a ha k]
        by_cases ck : k = j
        · rw [if_pos ck, if_pos (by omega), ck]
        · rw [if_neg ck, if_neg (by omega)]
theorem w_leaves {h : Hp} (H : RF h) {s j : Nat} {O : List (Nat × Nat × Nat)} (hs : s < 4) (ob : obAt h s O) (hj : j < O.length) : ∃ h1, f_X11_leaves 616 (nI s) (nI (1024 * s + j)) h = some h1 ∧ frx (fun a i => (a = 665 ∧ i = s) ∨ (a = 666 ∨ a = 667 ∨ a = 668) ∧ i / 1024 = s) h h1 ∧ obAt h1 s (O.eraseIdx j) := by
  obtain ⟨o1, o2, o3⟩ := ob
  have nx : (nI s).toNatClampNeg = s := zi_nat (by omega)
  have gx : ¬ nI s < 0 := zi_neg (by omega)
  have lx : ¬ 4 ≤ s := by omega
  have e1 : nI O.length - 1 = nI (O.length - 1) := zi_sub (b := 1) (by omega)
  have f0 : frx (fun a i => (a = 665 ∧ i = s) ∨ (a = 666 ∨ a = 667 ∨ a = 668) ∧ i / 1024 = s) h (pE h 665 s (nI (O.length - 1))) := frx_pE (Or.inl ⟨rfl, rfl⟩)
  obtain ⟨h1, a1, a2, a3⟩ := w_leaves_12 hs (by omega : O.length - 1 < 1000) (O.length - 1 - j) j fz (pE h 665 s (nI (O.length - 1))) (H.on f0) (by rw [zE_pE, if_pos ⟨rfl, rfl⟩]) (by omega) (fz_big (by omega))
  have len : (O.eraseIdx j).length = O.length - 1 := by rw [List.length_eraseIdx, if_pos hj]
  refine ⟨h1, ?_, f0.trans (a2.mono (fun a i z => Or.inr z)), ?_, by rw [len]; omega, fun k m hk => ?_⟩
  · simp only [f_X11_leaves, o10, o00, bh, isO, inR, ck_true, bind_some9, Nat.reduceLeDiff, Nat.reduceEqDiff, and_self, and_true, true_and, false_and, and_false, not_false_eq_true, not_true_eq_false, or_self, or_false, false_or, if_true, if_false, reduceIte, RF_o H, RF_1257 H, RO_665 H, RL_665 H, zR_pE, zT_pE, zL_pE, zn_pE, zE_pE, zI_pE, zR_pI, zT_pI, zL_pI, zn_pI, zE_pI, zI_pI, nx, gx, lx, o1, e1, a1]
  · rw [a2.2.2.2 665 _ (by omega), zE_pE, if_pos ⟨rfl, rfl⟩, len]
  · have hk1 := (List.getElem?_eq_some_iff.mp hk).1
    rw [len] at hk1
    have key : ∀ a, (a = 666 ∨ a = 667 ∨ a = 668) → zE h1 a (1024 * s + k) = if j ≤ k then zE h a (1024 * s + (k + 1)) else zE h a (1024 * s + k) := fun a ha => by
      rw [a3 a ha k (by omega)]
      by_cases c : j ≤ k
      · rw [if_pos ⟨c, hk1⟩, if_pos c, zE_pE, if_neg (by omega)]
      · rw [if_neg (fun z => c z.1), if_neg c, zE_pE, if_neg (by omega)]
    rw [key 666 (by omega), key 667 (by omega), key 668 (by omega)]
    rw [List.getElem?_eraseIdx] at hk
    by_cases c : j ≤ k
    · rw [if_neg (by omega)] at hk
      rw [if_pos c, if_pos c, if_pos c]
      exact o3 (k + 1) m hk
    · rw [if_pos (by omega)] at hk
      rw [if_neg c, if_neg c, if_neg c]
      exact o3 k m hk
/-- the message at a place is one, so it is all that leaves -/
theorem erase_place : ∀ (O : List (Nat × Nat × Nat)) (p j : Nat), O.Pairwise (fun x y => x.1 < y.1) → O.findIdx? (fun m => decide (m.1 = p)) = some j → O.eraseIdx j = O.filter (fun m => m.1 ≠ p) ∧ j < O.length ∧ ∃ m, O[j]? = some m ∧ m.1 = p ∧ O.find? (fun m => decide (m.1 = p)) = some m
  | [], p, j, _, h => by cases h
  | a :: r, p, j, hp, h => by
    rw [List.pairwise_cons] at hp
    rw [List.findIdx?_cons] at h
    by_cases c : a.1 = p
    · rw [if_pos (decide_eq_true c)] at h
      have h : 0 = j := Option.some.inj h
      rw [← h]
      refine ⟨?_, by simp, a, rfl, c, List.find?_cons_of_pos (p := fun (m : Nat × Nat × Nat) => decide (m.1 = p)) (decide_eq_true c)⟩
      show r = _
      rw [List.filter_cons_of_neg (by simp [c])]
      symm
      rw [List.filter_eq_self]
      intro m hm
      have := hp.1 m hm
      simp
      omega
    · rw [if_neg (by rw [decide_eq_false c]; exact fun z => Bool.noConfusion z)] at h
      cases hz : r.findIdx? (fun m => decide (m.1 = p)) with
      | none => rw [hz] at h; cases h
      | some y =>
        rw [hz] at h
        have h : y + 1 = j := Option.some.inj h
        obtain ⟨i1, i2, m, i3, i4, i5⟩ := erase_place r p y hp.2 hz
        rw [← h]
        refine ⟨?_, by rw [List.length_cons]; omega, m, i3, i4, ?_⟩
        · rw [List.eraseIdx_cons_succ, i1, List.filter_cons_of_pos (by simp [c])]
        · rw [List.find?_cons_of_neg (p := fun (m : Nat × Nat × Nat) => decide (m.1 = p)) (by show ¬ decide (a.1 = p) = true; rw [decide_eq_false c]; exact fun z => Bool.noConfusion z)]
          exact i5
theorem no_place : ∀ (O : List (Nat × Nat × Nat)) (p : Nat), O.findIdx? (fun m => decide (m.1 = p)) = none → O.find? (fun m => decide (m.1 = p)) = none
  | [], p, _ => rfl
  | a :: r, p, h => by
    rw [List.findIdx?_cons] at h
    by_cases c : a.1 = p
    · rw [if_pos (decide_eq_true c)] at h; cases h
    · rw [if_neg (by rw [decide_eq_false c]; exact fun z => Bool.noConfusion z)] at h
      rw [List.find?_cons_of_neg (p := fun (m : Nat × Nat × Nat) => decide (m.1 = p)) (by show ¬ decide (a.1 = p) = true; rw [decide_eq_false c]; exact fun z => Bool.noConfusion z)]
      refine no_place r p ?_
      cases hz : r.findIdx? (fun m => decide (m.1 = p)) with
      | none => rfl
      | some y => rw [hz] at h; cases h
/-! A MESSAGE IS GONE, IN THE REFERENCE -/
theorem w_forget {vs : Nat → List Prg} {now : Int32} {TX : List (Nat × Nat × Nat × Prg)} {B K s : Nat} {h : Hp} {q : Shd} {C : List Rec} (hs : s < 4) (R : RS vs now TX B K s h q C) (hl : shL q ≠ -1) (hc : calm q) {p : Nat} (hp : ∃ m ∈ shO q, m.1 = p) :
    ∃ r h1, f_X11_does (f_losesD 30) 616 (nI s) 0 14 (nI p) 0 0 h = some (r, h1) ∧ ((r = 0 ∧ actR vs now TX B K s h q C (shForget q p) h1) ∨ (r = 1 ∧ frx (fpS s (B + shQ q)) h h1 ∧ ∃ j, f_X11_outOf 616 (nI s) (nI p) h1 = some (nI (1024 * s + j), h1) ∧ ∃ h2, f_X11_leaves 616 (nI s) (nI (1024 * s + j)) h1 = some h2 ∧ actR vs now TX B K s h q C (shForget q p) h2)) := by
  have kl : KLok vs now TX B K s 5 (f_losesD 30) := losesD_ok hs 5 30 (by omega)
  have hu := R.w
  obtain ⟨G, ⟨hI, hY⟩, I, EE, sd, mn, fw, ob⟩ := id R
  obtain ⟨H, eN, enow, T, ⟨hB, hK⟩, hv⟩ := id G
  have hQ := q_bound hI hY hK
  have hN16 := N16 hI
  obtain ⟨E, fI, fG, fN, fw9, fl9⟩ := shForget_I hI hl hp (by omega)
  have places : ∀ m ∈ shO q, m.1 < 100000 := fun m hm => by
    rw [hI.2.1.2.1] at hm
    have g1 := ((bkG_log hI.v).2.2.1 m hm).1
    rw [lgB_place] at g1
    obtain ⟨l, w, hC⟩ := hI.w hl
    have := (hI.2.2.1.2.1 l w.1).1
    rw [← hC] at this
    omega
  have pw : (shO q).Pairwise (fun x y => x.1 < y.1) := by rw [hI.2.1.2.1]; exact (bkG_log hI.v).2.2.2
  have hp1 : p < 100000 := by obtain ⟨m, hm, em⟩ := hp; rw [← em]; exact places m hm
  obtain ⟨h1, I1, f1, en1, rc1, alt⟩ := w_does (KL := f_losesD 30) H hs eN (by omega) sd hI hl (by omega) 14 0 (nI p) 0 0
  have f1p := f1.mono (dwS_fp s (B + shQ q))
  have G1 : RG vs now TX B K h1 (B + shQ q + 1) := G.on f1p en1
  have H1 := G1.1
  have fw1 : fwAt h1 (B + shQ q + 1) s EE (shN q) (shF q) := fun x hx => by
    obtain ⟨y1, y2, y3⟩ := (fw.on hN16 f1 dwS_rec (fun a j g _ => dwS_row (by omega)) (fun a j g => dwS_row (by omega))) x hx
    exact ⟨y1.more (Nat.le_succ _), y2, y3⟩
  have mn1 : mnAt h1 s (shN q) := mn.on f1 (dwS_row (by omega)) (fun x _ => dwS_row (by omega))
  have ob1 : obAt h1 s (shO q) := ob.on f1 (dwS_row (by omega)) (fun a k g _ => dwS_row (by omega))
  have eF : shForget q p = if (shCommit q 14 0 (nI p) 0 0).1 = false then (shCommit q 14 0 (nI p) 0 0).2 else shSetO (shCommit q 14 0 (nI p) 0 0).2 ((shO (shCommit q 14 0 (nI p) 0 0).2).filter (fun m => m.1 ≠ p)) := rfl
  rcases alt with ⟨ct, ed, sd1, l, hlZ, hlL, -, -⟩ | ⟨cf, D1, ed, sd1, ecm⟩
  · rw [if_neg (by rw [ct]; decide)] at eF
    obtain ⟨lw9, w9, -⟩ := hI.w hl
    have el9 : lw9 = l := (zi_eq (by have := w9.1; have := hI.1.1; omega) (by have := hI.1.1; omega)).mp (w9.2.1.symm.trans hlL)
    obtain ⟨⟨⟨⟨u1, u2, u3, u4, u5⟩, -⟩, -⟩, cut2, -⟩ := shCommit_cut hlL hlZ hI.1.1 (by rw [← el9]; exact w9.2.2.1) 14 0 (nI p) 0 0
    obtain ⟨cL, cF⟩ := cut2 ct
    rw [u4] at eF
    generalize (shCommit q 14 0 (nI p) 0 0).2 = c at *
    have fL : shL (shForget q p) ≠ -1 := by rw [eF]; show shL c ≠ -1; rw [cL]; exact hl
    have qE : shQ (shForget q p) = shQ q + 1 := by rw [eF]; exact u5
    cases hz : (shO q).findIdx? (fun m => decide (m.1 = p)) with
    | none =>
      obtain ⟨m, hm, em⟩ := hp
      have := no_place _ p hz
      rw [List.find?_eq_none] at this
      exact absurd (decide_eq_true em) (this m hm)
    | some j =>
      obtain ⟨er, jl, -⟩ := erase_place _ p j pw hz
      have eo := w_outOf H1 hs ob1 hp1 places
      rw [hz] at eo
      have eo : f_X11_outOf 616 (nI s) (nI p) h1 = some (nI (1024 * s + (0 + j)), h1) := eo
      rw [Nat.zero_add] at eo
      obtain ⟨h2, a1, a2, a3⟩ := w_leaves H1 hs ob1 jl
      rw [er] at a3
      have a2p : frx (fpS s (B + shQ q)) h1 h2 := a2.mono (fun a i z => z.elim (fun z => Or.inl (Or.inr (Or.inr (Or.inl ⟨by omega, z.2⟩)))) (fun z => Or.inl (Or.inr (Or.inr (Or.inr (Or.inr (Or.inr (Or.inr z))))))))
      refine ⟨1, h1, ed, Or.inr ⟨rfl, f1p, j, eo, h2, a1, E, f1p.trans a2p, fG.1, ?_⟩⟩
      rw [stl_off vs now (Or.inl fL)]
      refine ⟨⟨by rw [qE]; exact G1.on a2p (by rw [a2.2.2.1 1224 (by omega)]; exact en1), ⟨fI, Gr.y fG hY⟩, I1, EE, ?_, ?_, ?_, ?_⟩, fun _ x hx => ?_⟩
      · rw [qE, eF]
        exact (sdAt_same (u := shSetO c ((shO q).filter (fun m => m.1 ≠ p))) sd1 rfl rfl rfl rfl).on a2 (fun a i _ => by omega) (fun a j z => by obtain ⟨r, -, z⟩ := z; unfold dkS at z; omega) (fun a g => by omega)
      · rw [eF]
        show mnAt h2 s (shN c)
        rw [u3]
        exact mn1.on a2 (by omega) (fun n _ => by omega)
      · rw [eF, show shQ (shSetO c ((shO q).filter (fun m => m.1 ≠ p))) = shQ q + 1 from u5]
        show fwAt h2 _ s EE (shN c) (shF c)
        rw [u3, cF]
        exact fw1.on hN16 a2 (fun a i _ => by omega) (fun a j g1 g2 => by omega) (fun a j g => by omega)
      · rw [eF]; exact a3
      · have hx : x < shN (shForget q p) := hx
        rw [(fw9 fL).2.1]
        exact hc x (by omega)
  · rw [if_pos cf, ecm] at eF
    have a5 := fl9 (by rw [eF]; rfl)
    rw [eF] at a5 fI fG
    have eC : ShI vs (shLose (shSetD (shTried q) D1)) C ∧ Gr false q C (shLose (shSetD (shTried q) D1)) C := by
      obtain ⟨m, hm, em⟩ := hp
      have hm2 := hm
      rw [hI.2.1.2.1] at hm2
      have hr : rcOK vs (lgB C) (0, 14, shT q, nI p, 0, 0) := Or.inr (Or.inr (Or.inl ⟨rfl, rfl, p, ⟨m, hm2, em⟩, by rw [← em]; exact ((bkG_log hI.v).2.2.1 m hm2).1, rfl⟩))
      have z := fail_I hI hl 14 0 (nI p) 0 0 hr cf
      rw [ecm] at z
      exact ⟨z.1, z.2.1⟩
    obtain ⟨h2, E2, b1, b2, b3, b4, b5⟩ := kl h1 (shSetD (shTried q) D1) C ⟨G1, ⟨eC.1, Gr.y eC.2 hY⟩, by
      have a5 : upsN (shZ q) D1 + 1 ≤ upsN (shZ q) (shD q) := a5
      show upsN (shZ q) D1 ≤ 5
      omega, I1, EE, sd1, mn1, fw1, ob1⟩
    have b2 : frx (fpS s (B + (shQ q + 1))) h1 h2 := b2
    have b1 : f_losesD 30 616 (nI s) h1 = some h2 := b1
    rw [b1] at ed
    refine ⟨0, h2, ed, Or.inl ⟨rfl, ?_⟩⟩
    rw [eF]
    exact ⟨E2, f1p.trans (b2.mono (fpS_le (by omega))), b4, b3, b5⟩
