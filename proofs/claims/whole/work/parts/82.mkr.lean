/-! THE REFERENCE IS MADE -/
/-- rows are made, and named in fields of 616 -/
def mkAll (K : Hp → Option Hp) : List (Nat × Nat × Nat) → Hp → Option Hp
  | [], h => K h
  | r :: L, h => ck (8 ≤ zn h) (bh (pN h r.2.1 r.2.2) (fun h2 => bh (pR h2 r.1 616 (zn h)) (fun h3 => mkAll K L h3)))
def rows53 : List (Nat × Nat × Nat) := [(1207, 22, 4100), (1208, 22, 4100), (1209, 22, 4100), (1210, 22, 4100), (1211, 22, 8), (1212, 22, 8), (1214, 22, 11100), (1215, 22, 11100), (1216, 23, 11100), (1217, 22, 11100), (1218, 23, 11100), (1219, 22, 11100), (1220, 22, 11100), (1221, 22, 11100), (1222, 22, 10), (1225, 22, 60000), (1226, 22, 60000), (1227, 22, 60000), (1228, 22, 60000), (1229, 22, 60000), (1230, 22, 163840), (1231, 22, 20), (1232, 22, 20), (1233, 22, 20), (1234, 23, 20), (1235, 22, 20), (1236, 22, 4), (1237, 22, 4), (1238, 22, 4), (1239, 22, 4), (1240, 22, 3840), (1241, 22, 64), (1242, 22, 64), (1243, 22, 64), (1244, 22, 64), (1245, 22, 512), (1246, 22, 64), (1247, 22, 64), (1248, 22, 64), (1249, 22, 64), (1250, 22, 64), (1251, 22, 64), (1252, 22, 64), (1253, 22, 64), (1254, 22, 64), (1255, 22, 64), (1256, 22, 64), (1257, 22, 4), (1258, 22, 4096), (1259, 22, 4096), (1260, 22, 4096), (1261, 22, 1024), (1262, 23, 8192)]
theorem rows53_e : rows53 = (List.range' 1 53).map rfT := by decide +kernel
theorem f_X11_init_e (h : Hp) : f_X11_init 616 h = ck (isO h 616 12) (ck (8 ≤ zn h) (bh (pN h 22 300) (fun h3 => bh (pR h3 1203 616 (zn h)) (fun h4 => bh (pI h4 1205 616 (-1)) (fun h5 => mkAll (fun h => f_X11_init_458 fz 616 0 h) rows53 h5))))) := by
  unfold f_X11_init
  rfl
def RFw (h : Hp) : Prop := 671 ≤ zn h ∧ zT h 616 = 12 ∧ ∀ i, i < 54 → zR h (rfT i).1 616 = 617 + i ∧ zT h (617 + i) = (rfT i).2.1 ∧ zL h (617 + i) = (rfT i).2.2
/-- k rows stand -/
def PW (h0 : Hp) (k : Nat) (h : Hp) : Prop := zn h = 617 + k ∧ zT h 616 = 12 ∧ (∀ i, i < k → zR h (rfT i).1 616 = 617 + i ∧ zT h (617 + i) = (rfT i).2.1 ∧ zL h (617 + i) = (rfT i).2.2) ∧ (∀ i, i < k → ∀ j, zE h (617 + i) j = 0) ∧ (∀ f, zI h f 616 = if f = 1205 ∧ 0 < k then -1 else 0) ∧ cf (fun a _ => a = 616) h0 h
theorem rfT_inj : ∀ k, k < 54 → ∀ i, i < k → (rfT i).1 ≠ (rfT k).1 := by decide +kernel
theorem PW.step {h0 h : Hp} {k : Nat} (hk : k < 54) (k0 : 0 < k) (h00 : zn h0 = 617) (p : PW h0 k h) : PW h0 (k + 1) (pR (pN h (rfT k).2.1 (rfT k).2.2) (rfT k).1 616 (617 + k)) := by
  obtain ⟨p1, p2, p3, p4, p5, p6⟩ := p
  have A := mk_pR (f := (rfT k).1) (a := 616) (t := (rfT k).2.1) (n := (rfT k).2.2) p1 (by omega) (by omega)
  have o : isO h 616 12 := ⟨by omega, by omega, p2⟩
  have zi : ∀ f, zI (pR (pN h (rfT k).2.1 (rfT k).2.2) (rfT k).1 616 (617 + k)) f 616 = zI h f 616 := fun f => (cf_pN (S := fun _ _ => False) h (rfT k).2.1 (rfT k).2.2).I o (fun z => z)
  generalize pR (pN h (rfT k).2.1 (rfT k).2.2) (rfT k).1 616 (617 + k) = m at A zi
  refine ⟨A.nn, (A.cc.O o).2.2, fun i hi => ?_, fun i hi j => ?_, fun f => ?_, p6.tr (A.cc.mono (fun a j _ z => z.1))⟩
  · by_cases e : i = k
    · rw [e]
      exact ⟨A.rr, A.oo.2.2, A.ll⟩
    · obtain ⟨q1, q2, q3⟩ := p3 i (by omega)
      have oi : isO h (617 + i) (rfT i).2.1 := ⟨by omega, by omega, q2⟩
      exact ⟨(A.cc.R o (fun z => rfT_inj k hk i (by omega) z.2)).trans q1, (A.cc.O oi).2.2, (A.cc.L oi).trans q3⟩
  · by_cases e : i = k
    · rw [e]; exact (A.zz j).2.2.2.1
    · have oi : isO h (617 + i) (rfT i).2.1 := ⟨by omega, by omega, (p3 i (by omega)).2.1⟩
      rw [A.cc.E oi (by omega)]; exact p4 i (by omega) j
  · rw [zi, p5]
    by_cases c : f = 1205
    · rw [if_pos ⟨c, k0⟩, if_pos ⟨c, by omega⟩]
    · rw [if_neg (fun z => c z.1), if_neg (fun z => c z.1)]
def sumL : List (Nat × Nat × Nat) → Nat
  | [] => 0
  | r :: L => r.2.2 + sumL L
theorem mkAll_ok {K : Hp → Option Hp} {h0 : Hp} (h00 : zn h0 = 617) : ∀ (m k : Nat) (h : Hp), k + m = 54 → 0 < k → PW h0 k h → ∃ h1, mkAll K ((List.range' k m).map rfT) h = K h1 ∧ PW h0 54 h1 ∧ zs h1 = zs h + sumL ((List.range' k m).map rfT)
  | 0, k, h, hk, _, p => ⟨h, rfl, by rw [← show k = 54 from hk]; exact p, rfl⟩
  | m + 1, k, h, hk, k0, p => by
    have p1 := p.1
    obtain ⟨h1, x1, x2, x3⟩ := mkAll_ok (K := K) h00 m (k + 1) _ (by omega) (by omega) (p.step (by omega) k0 h00)
    refine ⟨h1, ?_, x2, ?_⟩
    · rw [List.range'_succ, List.map_cons]
      show ck (8 ≤ zn h) (bh (pN h (rfT k).2.1 (rfT k).2.2) (fun h2 => bh (pR h2 (rfT k).1 616 (zn h)) (fun h3 => mkAll K _ h3))) = _
      rw [ck_yes (by omega), bhE, bhE, p1]
      exact x1
    · rw [x3, List.range'_succ, List.map_cons]
      show zs h + (rfT k).2.2 + _ = zs h + ((rfT k).2.2 + _)
      omega
theorem sum53 : sumL rows53 ≤ 640000 := by decide +kernel
section Qf
variable {h : Hp}
theorem RFw.on {S : Nat → Nat → Prop} {h1 : Hp} (H : RFw h) (p : frx S h h1) : RFw h1 := by
  obtain ⟨⟨a1, a2, a3, a4, -⟩, -⟩ := p
  unfold RFw at H ⊢
  have e : zn h1 = zn h := by unfold zn; rw [a1]
  rw [e, a2, a3, a4]
  exact H
theorem qF_o (H : RFw h) : isO h 616 12 := ⟨by decide, Nat.lt_of_lt_of_le (by decide) H.1, H.2.1⟩
theorem qF_1211 (H : RFw h) : zR h 1211 616 = 622 := (H.2.2 5 (by decide)).1
theorem qO_622 (H : RFw h) : isO h 622 22 := ⟨by decide, Nat.lt_of_lt_of_le (by decide) H.1, (H.2.2 5 (by decide)).2.1⟩
theorem qL_622 (H : RFw h) : zL h 622 = 8 := (H.2.2 5 (by decide)).2.2
theorem qF_1232 (H : RFw h) : zR h 1232 616 = 640 := (H.2.2 23 (by decide)).1
theorem qO_640 (H : RFw h) : isO h 640 22 := ⟨by decide, Nat.lt_of_lt_of_le (by decide) H.1, (H.2.2 23 (by decide)).2.1⟩
theorem qL_640 (H : RFw h) : zL h 640 = 20 := (H.2.2 23 (by decide)).2.2
theorem qF_1234 (H : RFw h) : zR h 1234 616 = 642 := (H.2.2 25 (by decide)).1
theorem qO_642 (H : RFw h) : isO h 642 23 := ⟨by decide, Nat.lt_of_lt_of_le (by decide) H.1, (H.2.2 25 (by decide)).2.1⟩
theorem qL_642 (H : RFw h) : zL h 642 = 20 := (H.2.2 25 (by decide)).2.2
theorem qF_1235 (H : RFw h) : zR h 1235 616 = 643 := (H.2.2 26 (by decide)).1
theorem qO_643 (H : RFw h) : isO h 643 22 := ⟨by decide, Nat.lt_of_lt_of_le (by decide) H.1, (H.2.2 26 (by decide)).2.1⟩
theorem qL_643 (H : RFw h) : zL h 643 = 20 := (H.2.2 26 (by decide)).2.2
theorem qF_1236 (H : RFw h) : zR h 1236 616 = 644 := (H.2.2 27 (by decide)).1
theorem qO_644 (H : RFw h) : isO h 644 22 := ⟨by decide, Nat.lt_of_lt_of_le (by decide) H.1, (H.2.2 27 (by decide)).2.1⟩
theorem qL_644 (H : RFw h) : zL h 644 = 4 := (H.2.2 27 (by decide)).2.2
theorem qF_1237 (H : RFw h) : zR h 1237 616 = 645 := (H.2.2 28 (by decide)).1
theorem qO_645 (H : RFw h) : isO h 645 22 := ⟨by decide, Nat.lt_of_lt_of_le (by decide) H.1, (H.2.2 28 (by decide)).2.1⟩
theorem qL_645 (H : RFw h) : zL h 645 = 4 := (H.2.2 28 (by decide)).2.2
end Qf
theorem i_fresh_18 {s n : Nat} (hs : s < 4) (hn : n ≤ 5) : ∀ (m j fuel : Nat) (h : Hp), RFw h → j + m = 5 → m < fuel → ∃ h1, f_X11_fresh_18 fuel 616 (nI s) (nI n) (nI (5 * s + j)) h = some h1 ∧ frx (frS s) h h1 ∧ ∀ r, r < 5 → (r < j → zE h1 642 (5 * s + r) = zE h 642 (5 * s + r) ∧ zE h1 643 (5 * s + r) = zE h 643 (5 * s + r) ∧ zE h1 640 (5 * s + r) = zE h 640 (5 * s + r)) ∧ (j ≤ r → zE h1 642 (5 * s + r) = (if r < n then 1 else 0) ∧ zE h1 643 (5 * s + r) = -1 ∧ zE h1 640 (5 * s + r) = 0)
  | m, j, 0, h, _, _, hf => absurd hf (Nat.not_lt_zero _)
  | 0, j, fuel + 1, h, H, hj, hf => by
    have e5 : (5 : Int32) * nI s + 5 = nI (5 * s + 5) := zi_five s 5
    have c : nI (5 * s + 5) ≤ nI (5 * s + j) := (zi_le (by omega) (by omega)).mpr (by omega)
    refine ⟨h, ?_, frx.rf h, fun r hr => ⟨fun _ => ⟨rfl, rfl, rfl⟩, fun z => by omega⟩⟩
    unfold f_X11_fresh_18
    rw [e5, if_pos c]
  | m + 1, j, fuel + 1, h, H, hj, hf => by
    have e5 : (5 : Int32) * nI s + 5 = nI (5 * s + 5) := zi_five s 5
    have c : ¬ nI (5 * s + 5) ≤ nI (5 * s + j) := zi_le0 (by omega) (by omega) (by omega)
    have nj : (nI (5 * s + j)).toNatClampNeg = 5 * s + j := zi_nat (by omega)
    have gj : ¬ nI (5 * s + j) < 0 := zi_neg (by omega)
    have lj : ¬ 20 ≤ 5 * s + j := by omega
    have q : nI (5 * s + n) ≤ nI (5 * s + j) ↔ 5 * s + n ≤ 5 * s + j := zi_le (by omega) (by omega)
    generalize hv : (if j < n then (1 : Int32) else 0) = v
    have f1 : frx (frS s) h (pE (pE (pE h 642 (5 * s + j) v) 643 (5 * s + j) (-1)) 640 (5 * s + j) 0) := ((frx_pE ⟨by omega, by omega⟩).trans (frx_pE ⟨by omega, by omega⟩)).trans (frx_pE ⟨by omega, by omega⟩)
    have vals : ∀ a i, zE (pE (pE (pE h 642 (5 * s + j) v) 643 (5 * s + j) (-1)) 640 (5 * s + j) 0) a i = if a = 640 ∧ i = 5 * s + j then 0 else if a = 643 ∧ i = 5 * s + j then -1 else if a = 642 ∧ i = 5 * s + j then v else zE h a i := fun a i => by rw [zE_pE, zE_pE, zE_pE]
    have step : f_X11_fresh_18 (fuel + 1) 616 (nI s) (nI n) (nI (5 * s + j)) h = f_X11_fresh_18 fuel 616 (nI s) (nI n) (nI (5 * s + (j + 1))) (pE (pE (pE h 642 (5 * s + j) v) 643 (5 * s + j) (-1)) 640 (5 * s + j) 0) := by
      by_cases cj : j < n
      · rw [if_pos cj] at hv
        subst hv
        have d := eq_false (fun z => absurd (q.mp z) (by omega))
        simp only [f_X11_fresh_18, f_X11_fresh_46, o10, o00, bh, isO, inR, ck_true, bind_some9, Nat.reduceLeDiff, Nat.reduceEqDiff, and_self, and_true, true_and, false_and, and_false, not_false_eq_true, not_true_eq_false, or_self, or_false, false_or, if_true, if_false, reduceIte, qF_o H, qF_1232 H, qO_640 H, qL_640 H, qF_1234 H, qO_642 H, qL_642 H, qF_1235 H, qO_643 H, qL_643 H, zR_pE, zT_pE, zL_pE, zn_pE, zE_pE, zI_pE, zR_pI, zT_pI, zL_pI, zn_pI, zE_pI, zI_pI, e5, c, zi_five, d, nj, gj, lj, an11, zi_one]
        rfl
      · rw [if_neg cj] at hv
        subst hv
        have d := eq_true (q.mpr (by omega))
        simp only [f_X11_fresh_18, f_X11_fresh_46, o10, o00, bh, isO, inR, ck_true, bind_some9, Nat.reduceLeDiff, Nat.reduceEqDiff, and_self, and_true, true_and, false_and, and_false, not_false_eq_true, not_true_eq_false, or_self, or_false, false_or, if_true, if_false, reduceIte, qF_o H, qF_1232 H, qO_640 H, qL_640 H, qF_1234 H, qO_642 H, qL_642 H, qF_1235 H, qO_643 H, qL_643 H, zR_pE, zT_pE, zL_pE, zn_pE, zE_pE, zI_pE, zR_pI, zT_pI, zL_pI, zn_pI, zE_pI, zI_pI, e5, c, zi_five, d, nj, gj, lj, an01, zi_one]
        rfl
    generalize pE (pE (pE h 642 (5 * s + j) v) 643 (5 * s + j) (-1)) 640 (5 * s + j) 0 = g at *
    obtain ⟨h1, a1, a2, a3⟩ := i_fresh_18 hs hn m (j + 1) fuel g (H.on f1) (by omega) (by omega)
    refine ⟨h1, by rw [step]; exact a1, f1.trans a2, fun r hr => ⟨fun z => ?_, fun z => ?_⟩⟩
    · obtain ⟨y1, y2, y3⟩ := (a3 r hr).1 (by omega)
      have oth : ∀ a, zE g a (5 * s + r) = zE h a (5 * s + r) := fun a => by rw [vals, if_neg (by omega), if_neg (by omega), if_neg (by omega)]
      rw [y1, y2, y3]
      exact ⟨oth _, oth _, oth _⟩
    · by_cases cr : r = j
      · obtain ⟨y1, y2, y3⟩ := (a3 r hr).1 (by omega)
        rw [y1, y2, y3, cr]
        exact ⟨by rw [vals, if_neg (by omega), if_neg (by omega), if_pos ⟨rfl, rfl⟩]; exact hv.symm, by rw [vals, if_neg (by omega), if_pos ⟨rfl, rfl⟩], by rw [vals, if_pos ⟨rfl, rfl⟩]⟩
      · exact (a3 r hr).2 (by omega)
/-! the reference's constructor -/
theorem cf_frx {S : Nat → Nat → Prop} {h h1 : Hp} (f : frx S h h1) : cf (fun a j => S a j ∨ a = 616) h h1 := by
  obtain ⟨⟨a1, a2, a3, a4, a5, a6, a7⟩, b, c, d⟩ := f
  have e : zn h1 = zn h := congrArg Prod.fst a1
  refine ⟨by omega, fun a _ => ⟨by rw [a2], by rw [a3]⟩, fun a j _ hj => ⟨b j a (fun z => hj (Or.inr z)), by rw [a4], by rw [a6], d a j (fun z => hj (Or.inl z)), by rw [a5], by rw [a7]⟩⟩
theorem frx_z {S : Nat → Nat → Prop} {h h1 : Hp} (f : frx S h h1) : zn h1 = zn h ∧ zs h1 = zs h := ⟨congrArg Prod.fst f.1.1, congrArg Prod.snd f.1.1⟩
def fr0 (h : Hp) (s : Nat) : Prop := (zE h 644 s = 3 ∧ zE h 645 s = 0) ∧ ∀ r, r < 5 → zE h 642 (5 * s + r) = (if r < 3 then 1 else 0) ∧ zE h 643 (5 * s + r) = -1 ∧ zE h 640 (5 * s + r) = 0
def frS1 (s a j : Nat) : Prop := frS s a j ∨ ((a = 644 ∨ a = 645) ∧ j = s)
theorem i_fresh {h : Hp} (H : RFw h) {s : Nat} (hs : s < 4) : ∃ h1, f_X11_fresh 616 (nI s) 3 h = some h1 ∧ frx (frS1 s) h h1 ∧ fr0 h1 s := by
  have ts : (nI s).toNatClampNeg = s := zi_nat (by omega)
  have is : inR (nI s) 4 := zi_in hs (by omega)
  have f0 : frx (frS1 s) h (pE (pE h 644 s 3) 645 s 0) := (frx_pE (S := frS1 s) (Or.inr ⟨Or.inl rfl, rfl⟩)).trans (frx_pE (Or.inr ⟨Or.inr rfl, rfl⟩))
  obtain ⟨h1, x1, x2, x3⟩ := i_fresh_18 (s := s) (n := 3) hs (by omega) 5 0 fz (pE (pE h 644 s 3) 645 s 0) (H.on f0) (by omega) (fz_big (by omega))
  have e5 : (5 : Int32) * nI s = nI (5 * s + 0) := by rw [show (5 : Int32) = nI 5 from rfl, zi_mul]; rfl
  refine ⟨h1, ?_, f0.trans (x2.mono (fun a j z => Or.inl z)), ⟨?_, ?_⟩, fun r hr => (x3 r hr).2 (by omega)⟩
  · unfold f_X11_fresh
    rw [ck_yes (qF_o H), qF_1236 H, ck_yes (qO_644 H), qL_644 H, ck_yes is, bhE, show pE h 644 (nI s).toNatClampNeg 3 = pE h 644 s 3 from by rw [ts], show zR (pE h 644 s 3) 1237 616 = 645 from qF_1237 H, ck_yes (show isO (pE h 644 s 3) 645 22 from qO_645 H), show zL (pE h 644 s 3) 645 = 4 from qL_645 H, ck_yes is, bhE, bhE, e5, ts]
    exact x1
  · rw [x2.2.2.2 644 s (by unfold frS; omega), zE_pE, if_neg (by omega), zE_pE, if_pos ⟨rfl, rfl⟩]
  · rw [x2.2.2.2 645 s (by unfold frS; omega), zE_pE, if_pos ⟨rfl, rfl⟩]
def frA (a : Nat) : Prop := a = 640 ∨ a = 642 ∨ a = 643 ∨ a = 644 ∨ a = 645
theorem i_479 : ∀ (m i fuel : Nat) (h : Hp), i + m = 4 → m < fuel → RFw h → (∀ s, s < i → fr0 h s) → ∃ h1, f_X11_init_479 fuel 616 (nI i) h = some h1 ∧ frx (fun a _ => frA a) h h1 ∧ ∀ s, s < 4 → fr0 h1 s
  | m, i, 0, _, _, hf, _, _ => absurd hf (Nat.not_lt_zero _)
  | 0, i, fuel + 1, h, hi, _, H, hd => by
    have hi : i = 4 := hi
    subst hi
    refine ⟨h, ?_, frx.rf h, hd⟩
    unfold f_X11_init_479
    rw [if_pos (by decide)]
  | m + 1, i, fuel + 1, h, hi, hf, H, hd => by
    have c : ¬ (4 : Int32) ≤ nI i := zi_le0 (a := 4) (by omega) (by omega) (by omega)
    obtain ⟨g, g1, g2, g3⟩ := i_fresh H (s := i) (by omega)
    have gk : ∀ s, s < i → fr0 g s := fun s hs => by
      obtain ⟨⟨a1, a2⟩, a3⟩ := hd s hs
      have e : ∀ a j, ¬ frS1 i a j → zE g a j = zE h a j := fun a j hj => g2.2.2.2 a j hj
      refine ⟨⟨(e _ _ (by unfold frS1 frS; omega)).trans a1, (e _ _ (by unfold frS1 frS; omega)).trans a2⟩, fun r hr => ?_⟩
      obtain ⟨b1, b2, b3⟩ := a3 r hr
      exact ⟨(e _ _ (by unfold frS1 frS; omega)).trans b1, (e _ _ (by unfold frS1 frS; omega)).trans b2, (e _ _ (by unfold frS1 frS; omega)).trans b3⟩
    obtain ⟨h1, x1, x2, x3⟩ := i_479 m (i + 1) fuel g (by omega) (by omega) (H.on g2) (fun s hs => by
      by_cases e : s = i
      · rw [e]; exact g3
      · exact gk s (by omega))
    refine ⟨h1, ?_, (g2.mono (fun a j z => by unfold frS1 frS at z; unfold frA; omega)).trans x2, x3⟩
    unfold f_X11_init_479
    rw [if_neg c, ck_yes (qF_o H), g1, bind_some9, bhE, zi_one]
    exact x1
theorem i_458 : ∀ (m i fuel : Nat) (h : Hp), i + m = 8 → m < fuel → RFw h → (∀ p, p < i → zE h 622 p = -1) → ∃ h1, f_X11_init_458 fuel 616 (nI i) h = f_X11_init_479 fz 616 (nI 0) h1 ∧ frx (fun a _ => a = 622) h h1 ∧ ∀ p, p < 8 → zE h1 622 p = -1
  | m, i, 0, _, _, hf, _, _ => absurd hf (Nat.not_lt_zero _)
  | 0, i, fuel + 1, h, hi, _, H, hd => by
    have hi : i = 8 := hi
    subst hi
    refine ⟨h, ?_, frx.rf h, hd⟩
    unfold f_X11_init_458
    rw [if_pos (by decide)]
    rfl
  | m + 1, i, fuel + 1, h, hi, hf, H, hd => by
    have c : ¬ (8 : Int32) ≤ nI i := zi_le0 (a := 8) (by omega) (by omega) (by omega)
    have f1 : frx (fun a _ => a = 622) h (pE h 622 i (-1)) := frx_pE rfl
    obtain ⟨h1, x1, x2, x3⟩ := i_458 m (i + 1) fuel (pE h 622 i (-1)) (by omega) (by omega) (H.on f1) (fun p hp => by
      rw [zE_pE]
      by_cases e : p = i
      · rw [if_pos ⟨rfl, e⟩]
      · rw [if_neg (fun z => e z.2)]; exact hd p (by omega))
    refine ⟨h1, ?_, f1.trans x2, x3⟩
    unfold f_X11_init_458
    rw [if_neg c, ck_yes (qF_o H), qF_1211 H, ck_yes (qO_622 H), qL_622 H, ck_yes (zi_in (by omega : i < 8) (by omega)), zi_nat (by omega), bhE, bhE, zi_one]
    exact x1
theorem PW.one {h : Hp} (o : isO h 616 12) (hz : zn h = 617) (zo : zr h 616) : PW h 1 (pI (pR (pN h 22 300) 1203 616 617) 1205 616 (-1)) := by
  have A := mk_pR (f := 1203) (a := 616) (t := 22) (n := 300) hz (by omega) (by omega)
  have zi : ∀ f, zI (pR (pN h 22 300) 1203 616 617) f 616 = zI h f 616 := fun f => (cf_pN (S := fun _ _ => False) h 22 300).I o (fun z => z)
  generalize pR (pN h 22 300) 1203 616 617 = m at A zi
  have f : cf (fun a _ => a = 616) m (pI m 1205 616 (-1)) := cf_pI rfl
  have oA := A.cc.O o
  refine ⟨(zn_pI _ _ _ _).trans A.nn, (f.O oA).2.2, fun i hi => ?_, fun i hi j => ?_, fun g => ?_, (A.cc.mono (fun a j _ z => z.1)).tr f⟩
  · have e : i = 0 := by omega
    subst e
    exact ⟨A.rr, (f.O A.oo).2.2, (f.L A.oo).trans A.ll⟩
  · have e : i = 0 := by omega
    subst e
    exact (f.E A.oo (by omega)).trans (A.zz j).2.2.2.1
  · rw [zI_pI]
    by_cases e : g = 1205
    · rw [if_pos ⟨e, rfl⟩, if_pos ⟨e, by omega⟩]
    · rw [if_neg (fun z => e z.1), if_neg (fun z => e z.1), zi]; exact (zo g).1
/-- the reference -/
theorem i_ref {h : Hp} (o : isO h 616 12) (hz : zn h = 617) (zo : zr h 616) : ∃ h1, f_X11_init 616 h = some h1 ∧ zn h1 = 671 ∧ zs h1 ≤ zs h + 641000 ∧ cf (fun a _ => a = 616) h h1 ∧ RFw h1 ∧ (∀ f, zI h1 f 616 = if f = 1205 then -1 else 0) ∧ (∀ a j, 617 ≤ a → a ≤ 670 → a ≠ 622 → ¬ frA a → zE h1 a j = 0) ∧ (∀ p, p < 8 → zE h1 622 p = -1) ∧ ∀ s, s < 4 → fr0 h1 s := by
  obtain ⟨g, g1, ⟨p1, p2, p3, p4, p5, p6⟩, g3⟩ := mkAll_ok (K := fun h => f_X11_init_458 fz 616 0 h) hz 53 1 _ (by omega) (by omega) (PW.one o hz zo)
  have H : RFw g := ⟨by omega, p2, p3⟩
  obtain ⟨k, k1, k2, k3⟩ := i_458 8 0 fz g (by omega) (fz_big (by omega)) H (fun p hp => by omega)
  obtain ⟨l, l1, l2, l3⟩ := i_479 4 0 fz k (by omega) (fz_big (by omega)) (H.on k2) (fun s hs => by omega)
  have fl : frx (fun a _ => a = 622 ∨ frA a) g l := (k2.mono (fun a j z => Or.inl z)).trans (l2.mono (fun a j z => Or.inr z))
  obtain ⟨z1, z2⟩ := frx_z fl
  have s53 := sum53
  rw [rows53_e] at s53
  refine ⟨l, ?_, by omega, ?_, (p6.mono (fun a j _ z => z)).tr2 (cf_frx fl) (fun a j ha z => ?_), H.on fl, fun f => ?_, fun a j h1 h2 h3 h4 => ?_, fun p hp => ?_, l3⟩
  · rw [f_X11_init_e, ck_yes o, ck_yes (by omega), bhE, hz, bhE, bhE, rows53_e, g1, ← l1]
    exact k1
  · rw [z2, g3]
    show zs h + 300 + _ ≤ _
    omega
  · rw [hz] at ha
    unfold frA at z
    omega
  · rw [fl.2.2.1 f (by unfold frA; omega), p5]
    by_cases c : f = 1205
    · rw [if_pos ⟨c, by omega⟩, if_pos c]
    · rw [if_neg (fun z => c z.1), if_neg c]
  · rw [fl.2.2.2 a j (fun z => z.elim h3 h4), show a = 617 + (a - 617) by omega]
    exact p4 (a - 617) (by omega) j
  · rw [l2.2.2.2 622 p (by unfold frA; omega)]; exact k3 p hp
