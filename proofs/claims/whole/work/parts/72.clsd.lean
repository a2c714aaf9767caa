/-! ROWS ARE OPENED, TASKS FAIL, MESSAGES GO: IN THE CLASS -/
theorem c_floorMod {m : Nat} (hm : m < 2147483648) {b : Nat} (hb : 1 ≤ b) (hb2 : b < 2147483648) (h : Hp) : f_J9_floorMod_7cf53 (nI m) (nI b) h = some (nI (m % b), h) ∧ f_J9_floorDiv_7cf53 (nI m) (nI b) h = some (nI (m / b), h) := by
  have b0 : ¬ nI b = 0 := fun z => by have := (zi_eq (b := 0) (by omega) (by omega)).mp z; omega
  have x0 : (0 : Int32) ≤ (nI m ^^^ nI b) := by
    have e : nI m ^^^ nI b = nI (m ^^^ b) := by
      apply Int32.toBitVec_inj.mp
      show BitVec.ofNat 32 m ^^^ BitVec.ofNat 32 b = BitVec.ofNat 32 (m ^^^ b)
      apply BitVec.eq_of_toNat_eq
      rw [BitVec.toNat_xor, BitVec.toNat_ofNat, BitVec.toNat_ofNat, BitVec.toNat_ofNat]
      have h1 : m % 2 ^ 32 = m := Nat.mod_eq_of_lt (by omega)
      have h2 : b % 2 ^ 32 = b := Nat.mod_eq_of_lt (by omega)
      have h3 : m ^^^ b < 2 ^ 31 := Nat.xor_lt_two_pow (by omega) (by omega)
      rw [h1, h2, Nat.mod_eq_of_lt (by omega)]
    have h3 : m ^^^ b < 2 ^ 31 := Nat.xor_lt_two_pow (by omega) (by omega)
    rw [e]
    exact Int32.not_lt.mp (zi_neg (by omega))
  constructor
  · unfold f_J9_floorMod_7cf53 bh
    rw [ck_yes b0, zi_mod hm hb2 (by omega)]
    show (if (0 : Int32) ≤ (nI m ^^^ nI b) then _ else _) = _
    rw [if_pos x0]
  · unfold f_J9_floorDiv_7cf53 bh
    rw [ck_yes b0, zi_div hm hb2 (by omega)]
    show (if (0 : Int32) ≤ (nI m ^^^ nI b) then _ else _) = _
    rw [if_pos x0]
/-- a version of a program -/
theorem c_get {h : Hp} {own : Nat → Nat} {vs : Nat → List Prg} (q : vsC h own vs) {p j : Nat} (hp : p < 8) {P : Prg} (hj : (vs p)[j]? = some P) (hl : (vs p).length ≤ 100000) : ∃ pa, f_Jx4a65c_get_915e3 (17 + 2 * p) (nI j) h = some (pa, h) ∧ prC h own pa P := by
  obtain ⟨-, b⟩ := q
  obtain ⟨b1, b2, b3, b4, b5, d, b6, b7, b8⟩ := b p hp
  have hjl := (List.getElem?_eq_some_iff.mp hj).1
  have ne : vs p ≠ [] := fun z => by rw [z] at hj; simp at hj
  obtain ⟨c1, c2, c3⟩ := b7 ne
  have nj : (nI j).toNatClampNeg = j := zi_nat (by omega)
  have gj : ¬ nI j < 0 := zi_neg (by omega)
  have lj : ¬ zL h d ≤ j := by omega
  have jl : nI j < nI (vs p).length := (zi_lt (by omega) (by omega)).mpr hjl
  have gj' := eq_false gj
  have jl' := eq_true jl
  refine ⟨zQ h d j, ?_, b8 j P hj⟩
  simp only [f_Jx4a65c_get_915e3, f_J15_checkIndex_7cf53, f_J3_checkIndex_8e157, f_Jx4a65c_elementData_915e3, o10, o00, bh, isO, inR, ck_true, bind_some9, Nat.reduceLeDiff, Nat.reduceEqDiff, and_self, and_true, true_and, false_and, and_false, not_false_eq_true, not_true_eq_false, or_self, or_false, false_or, if_true, if_false, reduceIte, zR_pE, zT_pE, zL_pE, zn_pE, zE_pE, zI_pE, zQ_pE, zJ_pE, zR_pI, zT_pI, zL_pI, zn_pI, zE_pI, zI_pI, zQ_pI, zJ_pI, zR_pR, zT_pR, zL_pR, zn_pR, zE_pR, zI_pR, zQ_pR, zJ_pR, zR_pJ, zT_pJ, zL_pJ, zn_pJ, zE_pJ, zI_pJ, zQ_pJ, zJ_pJ, b4, b5, gj', jl', b6, c1, nj, gj, lj]
theorem bgA_nat {vs : Nat → List Prg} {p : Nat} (hp : p < 8) (hl : (vs p).length ≤ 4100) (hne : vs p ≠ []) : Int32.ofNat (p + 8 * ((vs p).length - 1)) = nI (p + 8 * ((vs p).length - 1)) := rfl
theorem c_openRow {vs : Nat → List Prg} {now : Int32} {h : Hp} {own u : Nat → Nat} {s v n : Nat} {q : Shd} (hs : s < 4) (cx : cxC h own vs now) (k : shC h own s u v q) (hn : n < 16) (hN : shN q = n ∨ shN q ≤ n) {p j : Nat} (hp : p < 8) {P : Prg} (hj : (vs p)[j]? = some P) (hl : (vs p).length ≤ 4100) (x o : Int32) (hNn : n = shN q) : ∃ h1, f_X6_openRow (shA s) (nI n) (nI (p + 8 * j)) x o h = some h1 ∧ shC h1 own s u v (shOpen vs q n (nI (p + 8 * j)) x o) ∧ acC s h own u v h1 own u v := by
  have w := cx.1
  have vq := cx.2.2.1
  have hjl := (List.getElem?_eq_some_iff.mp hj).1
  obtain ⟨pa, g1, g2⟩ := c_get vq hp hj (by omega)
  obtain ⟨⟨v1, v2⟩, vb⟩ := id vq
  obtain ⟨b1, b2, b3, b4, b5, -⟩ := vb p hp
  obtain ⟨⟨⟨oA, -, -, r702, -, r704, -⟩, -, ⟨o2, l2, q2⟩, -⟩, ⟨e7, e8, e9, e10, e11⟩, -⟩ := id k
  have wf := k.2.2.2.1 n hn
  have wf : wfC h (wfA s n) (s + 4 * n) (shF q n) := wf
  obtain ⟨h1, x1, x2, x3, x4, x5⟩ := c_open wf P pa (nI (p + 8 * j)) x o
  have ow2 : ∀ a j, opX (wfA s n) a j → shA s + (18 + 8 * n) ≤ a ∧ a ≤ shA s + (18 + 8 * n) + 7 := fun a j z => by
    unfold opX tkX wkX hsX wfA at z
    omega
  have own2 : ∀ a j, opX (wfA s n) a j → own a = 10 * s + 8 := fun a j z => by
    have := ow2 a j z
    have e : a = shA s + (a - shA s) := by omega
    rw [e]
    exact ow_at w hs (by omega) (by omega) (by omega)
  have k1 := k.row (n := n) (f9 := flOpen (shF q n) P (nI (p + 8 * j)) x o) w hs hn x4 ow2 x2 (fun z => absurd z (by omega))
  have pr1 : prC h1 own (zR h1 1004 (wfA s n)) P := by
    rw [x3]
    exact g2.on x4 (exO.rf own h) (fun a j ha z => by rw [own2 a j z] at ha; omega)
  have eS : shOpen vs q n (nI (p + 8 * j)) x o = (shZ q, shL q, shT q, shD q, n + 1, upf (shF q) n (flOpen (shF q n) P (nI (p + 8 * j)) x o), shO q, shQ q) := by
    refine shOpen_eq ?_
    rw [prgOf_num vs hp (by omega)]
    exact hj
  have f2 : cf (fun a j => a = shA s ∧ 707 ≤ j ∧ j ≤ 711) h1 (pI h1 710 (shA s) (nI (n + 1))) := cf_pI ⟨rfl, by omega, by omega⟩
  have ownA : own (shA s) = 10 * s + 8 := ow_at (o := 0) w hs (by omega) (by omega) (by omega)
  have k2 : shC (pI h1 710 (shA s) (nI (n + 1))) own s u v (shOpen vs q n (nI (p + 8 * j)) x o) := by
    rw [eS]
    obtain ⟨m1, ⟨m7, m8, m9, m10, m11⟩, m3, m4, ⟨mN, m5⟩, m6⟩ := k1
    refine ⟨m1.on f2 (fun j _ _ => by omega) (fun a j ha => by omega), ⟨?_, ?_, ?_, ?_, m11⟩, fun r hr => (m3 r hr).on f2 (exO.rf own h1) (fun j _ _ => by omega) (fun a j ha z => by rw [z.1, ownA] at ha; omega), fun y hy => (m4 y hy).on f2 (fun a j h1 h2 _ z => by omega), ⟨show n + 1 ≤ 16 by omega, fun y hy => ?_⟩, m6.on m1.2.2.2.2 f2 (exO.rf own h1) (fun j z => by omega) (fun a j ha z => by rw [z.1, ownA] at ha; omega)⟩
    · rw [zI_pI, if_neg (by omega)]; exact m7
    · rw [zI_pI, if_neg (by omega)]; exact m8
    · rw [zI_pI, if_neg (by omega)]; exact m9
    · rw [zI_pI, if_pos ⟨rfl, rfl⟩]
    · have hy : y < n + 1 := hy
      rw [zR_pI]
      show prC (pI h1 710 (shA s) (nI (n + 1))) own (zR h1 1004 (shA s + (18 + 8 * y))) (flP (upf (shF q) n (flOpen (shF q n) P (nI (p + 8 * j)) x o) y))
      refine prC.on (h := h1) ?_ f2 (exO.rf own h1) (fun a j ha z => by rw [z.1, ownA] at ha; omega)
      by_cases c : y = n
      · rw [show upf (shF q) n (flOpen (shF q n) P (nI (p + 8 * j)) x o) y = flOpen (shF q n) P (nI (p + 8 * j)) x o from if_pos c, c]
        exact pr1
      · have z := m5 y (show y < shN q by omega)
        have z : prC h1 own (zR h1 1004 (shA s + (18 + 8 * y))) (flP (upf (shF q) n (flOpen (shF q n) P (nI (p + 8 * j)) x o) y)) := z
        exact z
  refine ⟨pI h1 710 (shA s) (nI (n + 1)), ?_, k2, acC.nz ((x4.mono (fun a j _ z => by rw [own2 a j z]; omega)).tr (f2.mono (fun a j _ z => by rw [z.1, ownA]; omega))) (show nz h (pI h1 710 (shA s) (nI (n + 1))) from x5)⟩
  obtain ⟨fm, fd⟩ := c_floorMod (m := p + 8 * j) (by omega) (b := 8) (by omega) (by omega) h
  rw [show (p + 8 * j) % 8 = p by omega] at fm
  rw [show (p + 8 * j) / 8 = j by omega] at fd
  have fm : f_J9_floorMod_7cf53 (nI (p + 8 * j)) 8 h = some (nI p, h) := fm
  have fd : f_J9_floorDiv_7cf53 (nI (p + 8 * j)) 8 h = some (nI j, h) := fd
  have np : (nI p).toNatClampNeg = p := zi_nat (by omega)
  have gp : ¬ nI p < 0 := zi_neg (by omega)
  have lp : ¬ 8 ≤ p := by omega
  have gj : ¬ nI j < 0 := zi_neg (by omega)
  have gj' := eq_false gj
  have nn : (nI n).toNatClampNeg = n := zi_nat (by omega)
  have gn : ¬ nI n < 0 := zi_neg (by omega)
  have ln : ¬ 16 ≤ n := by omega
  have qn := q2 n hn
  have jl : (nI (vs p).length ≤ nI j) = False := eq_false (fun z => absurd ((zi_le (by omega) (by omega)).mp z) (by omega))
  have opa := g2.1.1
  have oW : isO h (shA s + (18 + 8 * n)) 10 := wf.1.1.1
  have x1 : f_X9_open (shA s + (18 + 8 * n)) pa (nI (p + 8 * j)) x o h = some h1 := x1
  have oA1 := x4.O oA
  simp only [f_X6_openRow, f_Jx4a65c_size_8abf5, o10, o00, bh, isO, inR, ck_true, bind_some9, Nat.reduceLeDiff, Nat.reduceEqDiff, and_self, and_true, true_and, false_and, and_false, not_false_eq_true, not_true_eq_false, or_self, or_false, false_or, if_true, if_false, reduceIte, zR_pE, zT_pE, zL_pE, zn_pE, zE_pE, zI_pE, zQ_pE, zJ_pE, zR_pI, zT_pI, zL_pI, zn_pI, zE_pI, zI_pI, zQ_pI, zJ_pI, zR_pR, zT_pR, zL_pR, zn_pR, zE_pR, zI_pR, zQ_pR, zJ_pR, zR_pJ, zT_pJ, zL_pJ, zn_pJ, zE_pJ, zI_pJ, zQ_pJ, zJ_pJ, oA, fm, r702, v1, v2, np, gp, lp, b1, b2, b3, fd, gj', b4, b5, jl, r704, o2, l2, nn, gn, ln, g1, opa, qn, oW, x1, oA1, zi_one]
theorem c_begin {vs : Nat → List Prg} {now : Int32} {K s : Nat} (hv : vsOK vs) (hs : s < 4) (hK : K ≤ 2000) {h : Hp} {own u : Nat → Nat} {v : Nat} {q : Shd} {C : List Rec} (cx : cxC h own vs now) (k : shC h own s u v q) (hI : ShI vs q C) (hY : shY q ≤ lgW C + K) (hl : shL q ≠ -1) (hN : shN q < 16) {p : Nat} (hp : p < 8) (hne : vs p ≠ []) (x o : Int32) : ∃ h1 own1 u1 v1, f_X6_begin (shA s) (nI p) x o h = some (if (shBegin vs now q p x o).1 = true then 1 else 0, h1) ∧ shC h1 own1 s u1 v1 (shBegin vs now q p x o).2 ∧ acC s h own u v h1 own1 u1 v1 := by
  obtain ⟨w, hz, vq, oC, eC⟩ := id cx
  obtain ⟨c1, c2, c3, c4, c5, c6⟩ := cm_ok hI hY hK
  have vl := (hv p hp).1
  have hlen : 0 < (vs p).length := List.length_pos_iff.mpr hne
  obtain ⟨⟨v1', v2'⟩, vb⟩ := id vq
  obtain ⟨b1, b2, b3, b4, b5, -⟩ := vb p hp
  obtain ⟨⟨⟨oA, -, -, r702, -, r704, -⟩, -, ⟨o2, l2, q2⟩, -⟩, ⟨e7, e8, e9, e10, e11⟩, -⟩ := id k
  have eb : bgA vs p = nI (p + 8 * ((vs p).length - 1)) := rfl
  have ea : nI p + (8 : Int32) * (nI (vs p).length - 1) = bgA vs p := by
    have e1 : nI (vs p).length - (1 : Int32) = nI ((vs p).length - 1) := zi_sub (b := 1) (by omega)
    have e2 : (8 : Int32) * nI ((vs p).length - 1) = nI (8 * ((vs p).length - 1)) := zi_mul 8 _
    rw [e1, e2, zi_add, eb]
  have hj : (vs p)[(vs p).length - 1]? = some ((vs p)[(vs p).length - 1]'(by omega)) := List.getElem?_eq_getElem (by omega)
  generalize (vs p)[(vs p).length - 1]'(by omega) = P at hj
  have hP : prgOf vs (bgA vs p) = some P := by rw [eb, prgOf_num vs hp (by omega)]; exact hj
  have ha : ¬ bgA vs p < 0 := zi_neg (by omega)
  have hPO : prgOK P := (hv p hp).2 P (List.mem_of_getElem? hj)
  obtain ⟨y, h1, own1, u1, x1, x2, x3, x4⟩ := c_commit k w hz hs c1 c2 c3 c4 (kd := 0) (n := shN q) (by omega) (by omega) (bgA vs p) x o
  have x1 : f_X6_commit (shA s) 0 (nI (shN q)) (bgA vs p) x o h = some (y, h1) := x1
  have np : (nI p).toNatClampNeg = p := zi_nat (by omega)
  have gp : ¬ nI p < 0 := zi_neg (by omega)
  have lp : ¬ 8 ≤ p := by omega
  rw [shBegin_eq]
  cases hc : (shCommit q 0 (shN q) (bgA vs p) x o).1 with
  | false =>
    rw [hc, if_neg (fun z => Bool.noConfusion z)] at x2
    rw [if_pos rfl]
    refine ⟨h1, own1, u1, v, ?_, x3, x4⟩
    rw [x2] at x1
    simp only [f_X6_begin, f_Jx4a65c_size_8abf5, o10, o00, bh, isO, inR, ck_true, bind_some9, Nat.reduceLeDiff, Nat.reduceEqDiff, and_self, and_true, true_and, false_and, and_false, not_false_eq_true, not_true_eq_false, or_self, or_false, false_or, if_true, if_false, reduceIte, zR_pE, zT_pE, zL_pE, zn_pE, zE_pE, zI_pE, zQ_pE, zJ_pE, zR_pI, zT_pI, zL_pI, zn_pI, zE_pI, zI_pI, zQ_pI, zJ_pI, zR_pR, zT_pR, zL_pR, zn_pR, zE_pR, zI_pR, zQ_pR, zJ_pR, zR_pJ, zT_pJ, zL_pJ, zn_pJ, zE_pJ, zI_pJ, zQ_pJ, zJ_pJ, oA, e10, r702, v1', v2', np, gp, lp, b1, b2, b3, b4, b5, ea, x1]
    rfl
  | true =>
    rw [hc, if_pos rfl] at x2
    rw [if_neg (show ¬ true = false from fun z => by cases z)]
    rw [x2] at x1
    have cx1 := x4.cx hs cx
    obtain ⟨lw, wv, hC9⟩ := hI.w hl
    obtain ⟨⟨⟨⟨y1, y2, y3, y4, y5⟩, -⟩, -⟩, cut2, -⟩ := shCommit_cut wv.2.1 wv.1 hI.1.1 wv.2.2.1 0 (shN q) (bgA vs p) x o
    obtain ⟨cL, cF⟩ := cut2 hc
    obtain ⟨aI, aG, aL, aN, aF⟩ := born_I hI hl hN hP ha now hc
    have hnn : shN q = shN (shCommit q 0 (shN q) (bgA vs p) x o).2 := y3.symm
    obtain ⟨h2, z1, z2, z3⟩ := c_openRow (n := shN q) (j := (vs p).length - 1) hs cx1 x3 hN (Or.inr (by omega)) hp hj vl x o hnn
    have z1 : f_X6_openRow (shA s) (nI (shN q)) (bgA vs p) x o h1 = some h2 := z1
    have z2 : shC h2 own1 s u1 v (shOpen vs (shCommit q 0 (shN q) (bgA vs p) x o).2 (shN q) (bgA vs p) x o) := z2
    have cx2 := z3.cx hs cx1
    generalize hu : shOpen vs (shCommit q 0 (shN q) (bgA vs p) x o).2 (shN q) (bgA vs p) x o = uu at *
    have eU : uu = (shZ (shCommit q 0 (shN q) (bgA vs p) x o).2, shL (shCommit q 0 (shN q) (bgA vs p) x o).2, shT (shCommit q 0 (shN q) (bgA vs p) x o).2, shD (shCommit q 0 (shN q) (bgA vs p) x o).2, shN q + 1, upf (shF (shCommit q 0 (shN q) (bgA vs p) x o).2) (shN q) (flOpen (shF (shCommit q 0 (shN q) (bgA vs p) x o).2 (shN q)) P (bgA vs p) x o), shO (shCommit q 0 (shN q) (bgA vs p) x o).2, shQ (shCommit q 0 (shN q) (bgA vs p) x o).2) := by rw [← hu]; exact shOpen_eq hP
    have eUF : shF uu (shN q) = flOpen (shF (shCommit q 0 (shN q) (bgA vs p) x o).2 (shN q)) P (bgA vs p) x o := by rw [eU]; exact if_pos rfl
    have eUN : shN uu = shN q + 1 := by rw [eU]
    have eB : shBorn vs now (shCommit q 0 (shN q) (bgA vs p) x o).2 (shN q) (bgA vs p) x o = shSetF uu (shN q) (flRun (shF uu (shN q)) now).2 := by
      unfold shBorn
      rw [hu]
    obtain ⟨r, h3, s1, s2, s3, s4⟩ := c_runS (vs := vs) (now := now) cx2.1 hs z2 (n := shN q) (by omega) (by rw [eUF]; exact hPO) (by rw [eUF]; exact Nat.zero_lt_one) (by
      rw [eUF]
      intro e he
      have he : e ∈ [((0, bgA vs p, x, o) : Evt)] := he
      rw [List.mem_singleton.mp he]
      show 0 < 1000
      omega) (by
      rw [eUF]
      exact ⟨Nat.zero_le _, Nat.zero_le _, Nat.zero_le _, Nat.zero_le _, Nat.le_refl _, (fun z => by cases z), (fun z => by cases z), (fun z => by cases z), (fun z => by cases z)⟩)
    rw [← eB] at s3
    have s2' : wantC h3 (wfA s (shN q)) (flRun (shF (shBorn vs now (shCommit q 0 (shN q) (bgA vs p) x o).2 (shN q) (bgA vs p) x o) (shN q)) now).1 r := by
      rw [eB, setF_at1, flRun_again]
      exact s2
    have cx3 := s4.cx hs cx2
    obtain ⟨h4, own4, u4, v4, g1, g2, g3⟩ := c_goL hv hs hK 60 fz h3 own1 u1 v _ _ r cx3 s3 aI (Gr.y aG hY) (by rw [aL]; exact hl) (by rw [aN]; omega) (by omega) (by omega) (fz_big (by omega)) s2'
    refine ⟨h4, own4, u4, v4, ?_, g2, ((x4.tr z3).tr s4).tr g3⟩
    have oA1 := x3.1.1.1
    have oA2 := z2.1.1.1
    have r7012 := z2.1.1.2.2.1
    have r7042 := z2.1.1.2.2.2.2.2.1
    obtain ⟨o22, l22, q22⟩ := z2.1.2.2.1
    have nn : (nI (shN q)).toNatClampNeg = shN q := zi_nat (by omega)
    have gn : ¬ nI (shN q) < 0 := zi_neg (by omega)
    have ln : ¬ 16 ≤ shN q := by omega
    have qn := q22 (shN q) hN
    have qn : zQ h2 (shA s + 2) (shN q) = wfA s (shN q) := qn
    have oW2 : isO h2 (wfA s (shN q)) 10 := (z2.2.2.2.1 (shN q) hN).1.1.1
    have eG : f_X6_goOn (shA s) (wfA s (shN q)) h2 = some h4 := by
      unfold f_X6_goOn
      rw [ck_yes oA2, r7012, ck_yes cx2.2.2.2.1, ck_yes oW2, cx2.2.2.2.2, s1]
      exact (congrArg (fun z => f_X6_goOn_14 fz (shA s) (wfA s (shN q)) r z h3) zi_zero).trans g1
    simp only [f_X6_begin, f_Jx4a65c_size_8abf5, o10, o00, bh, isO, inR, ck_true, bind_some9, Nat.reduceLeDiff, Nat.reduceEqDiff, and_self, and_true, true_and, false_and, and_false, not_false_eq_true, not_true_eq_false, or_self, or_false, false_or, if_true, if_false, reduceIte, zR_pE, zT_pE, zL_pE, zn_pE, zE_pE, zI_pE, zQ_pE, zJ_pE, zR_pI, zT_pI, zL_pI, zn_pI, zE_pI, zI_pI, zQ_pI, zJ_pI, zR_pR, zT_pR, zL_pR, zn_pR, zE_pR, zI_pR, zQ_pR, zJ_pR, zR_pJ, zT_pJ, zL_pJ, zn_pJ, zE_pJ, zI_pJ, zQ_pJ, zJ_pJ, oA, e10, r702, v1', v2', np, gp, lp, b1, b2, b3, b4, b5, ea, x1, oA1, z1, oA2, r7042, o22, l22, nn, gn, ln, qn, eG]
theorem c_failTask {vs : Nat → List Prg} {now : Int32} {K s n : Nat} (hv : vsOK vs) (hs : s < 4) (hK : K ≤ 2000) {h : Hp} {own u : Nat → Nat} {v : Nat} {q : Shd} {C : List Rec} (cx : cxC h own vs now) (k : shC h own s u v q) (hI : ShI vs q C) (hY : shY q ≤ lgW C + K) (hl : shL q ≠ -1) (hn : n < shN q) (h0 : wkP (flW (shF q n)) = 0) : ∃ h1 own1 u1 v1, f_X6_failTask (shA s) (wfA s n) h = some (if (shFail now q n).1 = true then 1 else 0, h1) ∧ shC h1 own1 s u1 v1 (shFail now q n).2 ∧ acC s h own u v h1 own1 u1 v1 := by
  obtain ⟨w, hz, vq, oC, eC⟩ := id cx
  obtain ⟨c1, c2, c3, c4, c5, c6⟩ := cm_ok hI hY hK
  have wf := k.2.2.2.1 n (by omega)
  have wf : wfC h (wfA s n) (s + 4 * n) (shF q n) := wf
  obtain ⟨t, qh, qw, qk⟩ := id wf
  obtain ⟨⟨t1, t2, t3, t4, t5⟩, -, -, -, -, t9⟩ := id t
  have k2 := qk.2.2.1
  obtain ⟨⟨⟨oA, -, r701, -⟩, -⟩, -⟩ := id k
  have eN : zI h 1000 (wfA s n) / (4 : Int32) = nI n := by
    rw [t2]
    have : nI (s + 4 * n) / nI 4 = nI ((s + 4 * n) / 4) := zi_div (by omega) (by omega) (by omega)
    rw [show (4 : Int32) = nI 4 from rfl, this, show (s + 4 * n) / 4 = n by omega]
  by_cases c5' : 5 ≤ (flT (shF q n)).2.2.1 + 1
  · have e : shFail now q n = shBring now q n 3 (-1) 0 0 := by
      unfold shFail
      simp only []
      rw [if_pos c5']
    rw [e]
    obtain ⟨l1, l2, l3, l4, l5⟩ := hI.len hn
    have ok : evOK (flP (shF q n)) (flE (shF q n)) (3, -1, 0, 0) := ⟨by rw [← l5]; omega, by show 3 < 13; decide, by show 3 ≠ 0; decide, Or.inr (Or.inr (Or.inr (Or.inl ⟨by rw [← l5]; exact h0, Or.inr rfl⟩)))⟩
    obtain ⟨h1, own1, u1, v1, x1, x2, x3⟩ := c_bring hv hs hK cx k hI hY hl hn ok
    have x1 : f_X6_bring (shA s) (wfA s n) 3 (-1) 0 0 h = some (if (shBring now q n 3 (-1) 0 0).1 = true then 1 else 0, h1) := x1
    refine ⟨h1, own1, u1, v1, ?_, x2, x3⟩
    have d5 : ((flT (shF q n)).2.2.1 + 1 < 5) = False := eq_false (Int32.not_lt.mpr c5')
    cases hb : (shBring now q n 3 (-1) 0 0).1 with
    | false =>
      rw [hb, if_neg (fun z => Bool.noConfusion z)] at x1
      simp only [f_X6_failTask, o10, o00, bh, isO, inR, ck_true, bind_some9, Nat.reduceLeDiff, Nat.reduceEqDiff, and_self, and_true, true_and, false_and, and_false, not_false_eq_true, not_true_eq_false, or_self, or_false, false_or, if_true, if_false, reduceIte, zR_pE, zT_pE, zL_pE, zn_pE, zE_pE, zI_pE, zQ_pE, zJ_pE, zR_pI, zT_pI, zL_pI, zn_pI, zE_pI, zI_pI, zQ_pI, zJ_pI, zR_pR, zT_pR, zL_pR, zn_pR, zE_pR, zI_pR, zQ_pR, zJ_pR, zR_pJ, zT_pJ, zL_pJ, zn_pJ, zE_pJ, zI_pJ, zQ_pJ, zJ_pJ, t1, t5, t9, k2, d5, oA, x1, iB0]
      rfl
    | true =>
      rw [hb, if_pos rfl] at x1
      simp only [f_X6_failTask, o10, o00, bh, isO, inR, ck_true, bind_some9, Nat.reduceLeDiff, Nat.reduceEqDiff, and_self, and_true, true_and, false_and, and_false, not_false_eq_true, not_true_eq_false, or_self, or_false, false_or, if_true, if_false, reduceIte, zR_pE, zT_pE, zL_pE, zn_pE, zE_pE, zI_pE, zQ_pE, zJ_pE, zR_pI, zT_pI, zL_pI, zn_pI, zE_pI, zI_pI, zQ_pI, zJ_pI, zR_pR, zT_pR, zL_pR, zn_pR, zE_pR, zI_pR, zQ_pR, zJ_pR, zR_pJ, zT_pJ, zL_pJ, zn_pJ, zE_pJ, zI_pJ, zQ_pJ, zJ_pJ, t1, t5, t9, k2, d5, oA, x1, iB1]
  · have d5 : ((flT (shF q n)).2.2.1 + 1 < 5) = True := eq_true (Int32.not_le.mp c5')
    generalize hsi : now + (1 <<< (((flT (shF q n)).2.2.1 + 1 - 1) &&& 31)) = since
    have eF : shFail now q n = if (shCommit q 15 n ((flT (shF q n)).2.2.1 + 1) since 0).1 = false then (false, (shCommit q 15 n ((flT (shF q n)).2.2.1 + 1) since 0).2) else (true, shSetF (shCommit q 15 n ((flT (shF q n)).2.2.1 + 1) since 0).2 n (flP (shF (shCommit q 15 n ((flT (shF q n)).2.2.1 + 1) since 0).2 n), flE (shF (shCommit q 15 n ((flT (shF q n)).2.2.1 + 1) since 0).2 n), flW (shF (shCommit q 15 n ((flT (shF q n)).2.2.1 + 1) since 0).2 n), tkReady (flT (shF (shCommit q 15 n ((flT (shF q n)).2.2.1 + 1) since 0).2 n)) ((flT (shF q n)).2.2.1 + 1) since)) := by
      unfold shFail
      simp only []
      rw [if_neg c5', hsi]
    rw [eF]
    generalize hK9 : (flT (shF q n)).2.2.1 + 1 = kk at *
    obtain ⟨y, h1, own1, u1, x1, x2, x3, x4⟩ := c_commit k w hz hs c1 c2 c3 c4 (kd := 15) (n := n) (by omega) (by omega) kk since 0
    have x1 : f_X6_commit (shA s) 15 (nI n) kk since 0 h = some (y, h1) := x1
    cases hc : (shCommit q 15 n kk since 0).1 with
    | false =>
      rw [hc, if_neg (fun z => Bool.noConfusion z)] at x2
      rw [if_pos rfl]
      refine ⟨h1, own1, u1, v, ?_, x3, x4⟩
      rw [x2] at x1
      simp only [f_X6_failTask, o10, o00, bh, isO, inR, ck_true, bind_some9, Nat.reduceLeDiff, Nat.reduceEqDiff, and_self, and_true, true_and, false_and, and_false, not_false_eq_true, not_true_eq_false, or_self, or_false, false_or, if_true, if_false, reduceIte, zR_pE, zT_pE, zL_pE, zn_pE, zE_pE, zI_pE, zQ_pE, zJ_pE, zR_pI, zT_pI, zL_pI, zn_pI, zE_pI, zI_pI, zQ_pI, zJ_pI, zR_pR, zT_pR, zL_pR, zn_pR, zE_pR, zI_pR, zQ_pR, zJ_pR, zR_pJ, zT_pJ, zL_pJ, zn_pJ, zE_pJ, zI_pJ, zQ_pJ, zJ_pJ, t1, t5, t9, k2, hK9, d5, oA, r701, oC, eC, hsi, eN, x1]
      rfl
    | true =>
      rw [hc, if_pos rfl] at x2
      rw [if_neg (show ¬ true = false from fun z => by cases z)]
      rw [x2] at x1
      obtain ⟨w1, hz1⟩ := x4.z w hz
      obtain ⟨lw, wv, hC9⟩ := hI.w hl
      obtain ⟨⟨⟨⟨y1, y2, y3, y4, y5⟩, -⟩, -⟩, cut2, -⟩ := shCommit_cut wv.2.1 wv.1 hI.1.1 wv.2.2.1 15 n kk since 0
      have wf1 := x3.2.2.2.1 n (by omega)
      have wf1 : wfC h1 (wfA s n) (s + 4 * n) (shF (shCommit q 15 n kk since 0).2 n) := wf1
      obtain ⟨t', qh', qw', qk'⟩ := id wf1
      obtain ⟨⟨t1', t2', t3', t4', t5'⟩, -, -, -, -, t9'⟩ := id t'
      obtain ⟨h2, z1, z2, z3, z4⟩ := c_ready t' qk' kk since
      have own7 : own1 (wfA s n + 7) = 10 * s + 8 := by
        unfold wfA
        rw [show shA s + (18 + 8 * n) + 7 = shA s + (18 + 8 * n + 7) by omega]
        exact ow_at w1 hs (by omega) (by omega) (by omega)
      have k2' := x3.row (n := n) (f9 := (flP (shF (shCommit q 15 n kk since 0).2 n), flE (shF (shCommit q 15 n kk since 0).2 n), flW (shF (shCommit q 15 n kk since 0).2 n), tkReady (flT (shF (shCommit q 15 n kk since 0).2 n)) kk since)) w1 hs (by omega) z3 (fun a j z => by unfold wfA at z; omega) ⟨t'.on z3 (fun j _ _ => by omega) (fun j _ _ => by omega), qh'.on t' z3 (by omega) (fun a j _ _ => by omega), qw'.on t' z3 (fun j _ _ => by omega) (fun j => by omega), z2⟩ (fun hN => by
        have pr := x3.2.2.2.2.1.2 n hN
        have e4 : zR h2 1004 (wfA s n) = zR h1 1004 (wfA s n) := z3.R t1' (by omega)
        have : prC h2 own1 (zR h2 1004 (wfA s n)) (flP (shF (shCommit q 15 n kk since 0).2 n)) := by
          rw [e4]
          exact pr.on z3 (exO.rf own1 h1) (fun a j ha z => by rw [z, own7] at ha; omega)
        exact this)
      refine ⟨h2, own1, u1, v, ?_, k2', x4.tr (acC.nz (z3.mono (fun a j _ z => by rw [z, own7]; omega)) z4)⟩
      simp only [f_X6_failTask, o10, o00, bh, isO, inR, ck_true, bind_some9, Nat.reduceLeDiff, Nat.reduceEqDiff, and_self, and_true, true_and, false_and, and_false, not_false_eq_true, not_true_eq_false, or_self, or_false, false_or, if_true, if_false, reduceIte, zR_pE, zT_pE, zL_pE, zn_pE, zE_pE, zI_pE, zQ_pE, zJ_pE, zR_pI, zT_pI, zL_pI, zn_pI, zE_pI, zI_pI, zQ_pI, zJ_pI, zR_pR, zT_pR, zL_pR, zn_pR, zE_pR, zI_pR, zQ_pR, zJ_pR, zR_pJ, zT_pJ, zL_pJ, zn_pJ, zE_pJ, zI_pJ, zQ_pJ, zJ_pJ, t1, t5, t9, k2, hK9, d5, oA, r701, oC, eC, hsi, eN, x1, t1', t5', t9', z1]
theorem c_forget {vs : Nat → List Prg} {now : Int32} {K s p : Nat} (hs : s < 4) (hK : K ≤ 2000) {h : Hp} {own u : Nat → Nat} {v : Nat} {q : Shd} {C : List Rec} (cx : cxC h own vs now) (k : shC h own s u v q) (hI : ShI vs q C) (hY : shY q ≤ lgW C + K) (hp : p < 1000000) (hO : ∀ m ∈ shO q, m.1 < 1000000) : ∃ h1 own1 u1 v1, f_X6_forget (shA s) (nI p) h = some h1 ∧ shC h1 own1 s u1 v1 (shForget q p) ∧ acC s h own u v h1 own1 u1 v1 := by
  obtain ⟨w, hz, vq, oC, eC⟩ := id cx
  obtain ⟨c1, c2, c3, c4, c5, c6⟩ := cm_ok hI hY hK
  have oA := k.1.1.1
  obtain ⟨y, h1, own1, u1, x1, x2, x3, x4⟩ := c_commit k w hz hs c1 c2 c3 c4 (kd := 14) (n := 0) (by omega) (by omega) (nI p) 0 0
  have x1 : f_X6_commit (shA s) 14 0 (nI p) 0 0 h = some (y, h1) := x1
  have eF : shForget q p = if (shCommit q 14 0 (nI p) 0 0).1 = false then (shCommit q 14 0 (nI p) 0 0).2 else shSetO (shCommit q 14 0 (nI p) 0 0).2 ((shO (shCommit q 14 0 (nI p) 0 0).2).filter (fun m => m.1 ≠ p)) := rfl
  rw [eF]
  cases hc : (shCommit q 14 0 (nI p) 0 0).1 with
  | false =>
    rw [hc, if_neg (fun z => Bool.noConfusion z)] at x2
    rw [if_pos rfl]
    refine ⟨h1, own1, u1, v, ?_, x3, x4⟩
    rw [x2] at x1
    simp only [f_X6_forget, o10, o00, bh, isO, inR, ck_true, bind_some9, Nat.reduceLeDiff, Nat.reduceEqDiff, and_self, and_true, true_and, false_and, and_false, not_false_eq_true, not_true_eq_false, or_self, or_false, false_or, if_true, if_false, reduceIte, zR_pE, zT_pE, zL_pE, zn_pE, zE_pE, zI_pE, zQ_pE, zJ_pE, zR_pI, zT_pI, zL_pI, zn_pI, zE_pI, zI_pI, zQ_pI, zJ_pI, zR_pR, zT_pR, zL_pR, zn_pR, zE_pR, zI_pR, zQ_pR, zJ_pR, zR_pJ, zT_pJ, zL_pJ, zn_pJ, zE_pJ, zI_pJ, zQ_pJ, zJ_pJ, oA, x1]
  | true =>
    rw [hc, if_pos rfl] at x2
    rw [if_neg (show ¬ true = false from fun z => by cases z)]
    rw [x2] at x1
    obtain ⟨w1, hz1⟩ := x4.z w hz
    have eO : shO (shCommit q 14 0 (nI p) 0 0).2 = shO q := by
      unfold shCommit
      simp only []
      repeat' split
      all_goals rfl
    obtain ⟨a, b, c, R, ow, v1, v2, vl⟩ := x3.2.2.2.2.2.R w1 hs x3.1.2.2.2.2
    have ol := oc_lt hI
    obtain ⟨h2, z1, z2, z3, z4⟩ := c_remove (p := nI p) R vl (by omega) (by rw [eO]; omega)
    have eFil : (shO (shCommit q 14 0 (nI p) 0 0).2).filter (fun m => nI m.1 ≠ nI p) = (shO (shCommit q 14 0 (nI p) 0 0).2).filter (fun m => m.1 ≠ p) := by
      rw [eO]
      refine List.filter_congr (fun m hm => ?_)
      have := hO m hm
      have iff9 := zi_eq (a := m.1) (b := p) (by omega) (by omega)
      by_cases c9 : m.1 = p
      · rw [decide_eq_false (show ¬ (nI m.1 ≠ nI p) from fun z => z (iff9.mpr c9)), decide_eq_false (show ¬ (m.1 ≠ p) from fun z => z c9)]
      · rw [decide_eq_true (show nI m.1 ≠ nI p from fun z => c9 (iff9.mp z)), decide_eq_true (show m.1 ≠ p from c9)]
    rw [eFil] at z2
    have own4 : own1 (shA s + 4) = 10 * s + 8 := ow_at w1 hs (by omega) (by omega) (by omega)
    have hS : ∀ x j, obX (shA s + 4) a b c x j → x = shA s + 4 ∨ own1 x = 10 * s + 5 ∨ own1 x = 10 * s + 6 ∨ own1 x = 10 * s + 7 := fun x j z => by
      rcases z with z | z | z | z
      · exact Or.inl z.1
      · rw [z]; exact Or.inr (Or.inl ow.1)
      · rw [z]; exact Or.inr (Or.inr (Or.inl ow.2.1))
      · rw [z]; exact Or.inr (Or.inr (Or.inr ow.2.2))
    have lf : ((shO (shCommit q 14 0 (nI p) 0 0).2).filter (fun m => m.1 ≠ p)).length ≤ 16 * v := Nat.le_trans (List.length_filter_le _ _) vl
    refine ⟨h2, own1, u1, v, ?_, x3.ob w1 hs z3 (exO.rf own1 h1) hS (obC_of z2 ow v1 v2 lf), x4.tr (acC.nz (z3.mono (fun x j _ z => ?_)) z4)⟩
    · have oA1 := x3.1.1.1
      have r7061 := x3.1.1.2.2.2.2.2.2.2
      have o41 := x3.1.2.2.2.2
      simp only [f_X6_forget, o10, o00, bh, isO, inR, ck_true, bind_some9, Nat.reduceLeDiff, Nat.reduceEqDiff, and_self, and_true, true_and, false_and, and_false, not_false_eq_true, not_true_eq_false, or_self, or_false, false_or, if_true, if_false, reduceIte, zR_pE, zT_pE, zL_pE, zn_pE, zE_pE, zI_pE, zQ_pE, zJ_pE, zR_pI, zT_pI, zL_pI, zn_pI, zE_pI, zI_pI, zQ_pI, zJ_pI, zR_pR, zT_pR, zL_pR, zn_pR, zE_pR, zI_pR, zQ_pR, zJ_pR, zR_pJ, zT_pJ, zL_pJ, zn_pJ, zE_pJ, zI_pJ, zQ_pJ, zJ_pJ, oA, x1, oA1, r7061, o41, z1]
    · rcases hS x j z with z | z | z | z
      · rw [z, own4]; omega
      · rw [z]; omega
      · rw [z]; omega
      · rw [z]; omega
/-! DISKS ARE READ AND MADE ALIKE, IN THE CLASS -/
section Read
variable {h : Hp} {D B u num : Nat} {d : Dk}
theorem c_byteAt (y : dkC h D B u num d) {i : Nat} (hi : i < dkSz d) (hz : dkSz d < 1000000) : f_X5_byteAt D (nI i) h = some (dkb d i &&& 255, h) := by
  obtain ⟨⟨oD, y1, ⟨y2, oB, lB, -⟩, ⟨y3, hle⟩, -, y6, -⟩, -⟩ := y
  have ni : (nI i).toNatClampNeg = i := zi_nat (by omega)
  have gi : ¬ nI i < 0 := zi_neg (by omega)
  have li : ¬ 512 * u ≤ i := by omega
  have c : ¬ nI (dkSz d) ≤ nI i := zi_le0 (by omega) (by omega) (by omega)
  have e := y6 i hi
  simp only [f_X5_byteAt, o10, o00, bh, isO, inR, ck_true, bind_some9, Nat.reduceLeDiff, Nat.reduceEqDiff, and_self, and_true, true_and, false_and, and_false, not_false_eq_true, not_true_eq_false, or_self, or_false, false_or, if_true, if_false, reduceIte, zR_pE, zT_pE, zL_pE, zn_pE, zE_pE, zI_pE, zQ_pE, zJ_pE, zR_pI, zT_pI, zL_pI, zn_pI, zE_pI, zI_pI, zQ_pI, zJ_pI, zR_pR, zT_pR, zL_pR, zn_pR, zE_pR, zI_pR, zQ_pR, zJ_pR, zR_pJ, zT_pJ, zL_pJ, zn_pJ, zE_pJ, zI_pJ, zQ_pJ, zJ_pJ, gi, oD, y3, c, y2, oB, lB, ni, li, e]
theorem dkb_at {d : Dk} {k j : Nat} (hk : k < (dkL d).length) (hj : j < 16) : dkb d (16 * k + j) = cBt ((dkL d).getD k r0) j := by
  unfold dkb dkRd
  rw [show (16 * k + j) / 16 = k by omega, show (16 * k + j) % 16 = j by omega, if_pos hk]
theorem c_wordAt (y : dkC h D B u num d) (hz : dkSz d < 1000000) {k g : Nat} (hk : k < (dkL d).length) {x : Int32} (hg : (g = 3 ∧ x = rcA ((dkL d).getD k r0)) ∨ (g = 7 ∧ x = rcB ((dkL d).getD k r0)) ∨ (g = 11 ∧ x = rcC ((dkL d).getD k r0))) : f_X5_wordAt D (nI (16 * k + g)) h = some (x, h) := by
  have oD := y.1.1
  have sz : 16 * k + 15 < dkSz d := by unfold dkSz; omega
  have b0 := c_byteAt y (i := 16 * k + g) (by omega) hz
  have b1 := c_byteAt y (i := 16 * k + g + 1) (by omega) hz
  have b2 := c_byteAt y (i := 16 * k + g + 2) (by omega) hz
  have b3 := c_byteAt y (i := 16 * k + g + 3) (by omega) hz
  have z2 : nI (16 * k + g) + (2 : Int32) = nI (16 * k + g + 2) := zi_add _ 2
  have z3 : nI (16 * k + g) + (3 : Int32) = nI (16 * k + g + 3) := zi_add _ 3
  rw [dkb_at hk (by omega : g < 16)] at b0
  rw [show 16 * k + g + 1 = 16 * k + (g + 1) by omega, dkb_at hk (by omega : g + 1 < 16)] at b1
  rw [show 16 * k + g + 2 = 16 * k + (g + 2) by omega, dkb_at hk (by omega : g + 2 < 16)] at b2
  rw [show 16 * k + g + 3 = 16 * k + (g + 3) by omega, dkb_at hk (by omega : g + 3 < 16)] at b3
  have e1 : 16 * k + g + 1 = 16 * k + (g + 1) := by omega
  have e2 : 16 * k + g + 2 = 16 * k + (g + 2) := by omega
  have e3 : 16 * k + g + 3 = 16 * k + (g + 3) := by omega
  have W := cB_W ((dkL d).getD k r0) g x hg
  simp only [f_X5_wordAt, o10, o00, bh, isO, inR, ck_true, bind_some9, Nat.reduceLeDiff, Nat.reduceEqDiff, and_self, and_true, true_and, false_and, and_false, not_false_eq_true, not_true_eq_false, or_self, or_false, false_or, if_true, if_false, reduceIte, zR_pE, zT_pE, zL_pE, zn_pE, zE_pE, zI_pE, zQ_pE, zJ_pE, zR_pI, zT_pI, zL_pI, zn_pI, zE_pI, zI_pI, zQ_pI, zJ_pI, zR_pR, zT_pR, zL_pR, zn_pR, zE_pR, zI_pR, zQ_pR, zJ_pR, zR_pJ, zT_pJ, zL_pJ, zn_pJ, zE_pJ, zI_pJ, zQ_pJ, zJ_pJ, oD, b0, zi_one, z2, z3, e1, e2, e3, b1, b2, b3, W]
theorem getD_last {L : List Rec} (h : 0 < L.length) : L.getLast? = some (L.getD (L.length - 1) r0) := by
  rw [List.getLast?_eq_getElem?, List.getD_eq_getElem?_getD, List.getElem?_eq_getElem (by omega)]
  rfl
theorem c_lastTerm (y : dkC h D B u num d) (hz : dkSz d < 1000000) (hT : dkT d = 0) (hm : dkM d) : f_X5_lastTerm D h = some (nI (dkLast d), h) := by
  have eS : dkSz d = 16 * (dkL d).length := by unfold dkSz; omega
  obtain ⟨⟨oD, y1, ⟨y2, oB, lB, -⟩, ⟨y3, hle⟩, -, y6, -⟩, -⟩ := id y
  rcases Nat.eq_zero_or_pos (dkL d).length with h0 | h0
  · have e1 : dkLast d = 0 := by
      unfold dkLast lgT
      rw [List.length_eq_zero_iff.mp h0]
      rfl
    rw [e1]
    rw [eS, h0] at y3
    have y3 : zI h 602 D = 0 := y3
    unfold f_X5_lastTerm bh
    rw [ck_yes oD, y3]
    show (if (0 : Int32) ≤ 0 - 16 then _ else _) = _
    rw [if_neg (show ¬ (0 : Int32) ≤ 0 - 16 by decide)]
    rfl
  · have e1 : dkLast d = rcT ((dkL d).getD ((dkL d).length - 1) r0) := by
      unfold dkLast lgT
      rw [getD_last h0]
    have hr : rcM ((dkL d).getD ((dkL d).length - 1) r0) := hm.1 _ (List.mem_of_getLast? (getD_last h0))
    have e16 : nI (dkSz d) - (16 : Int32) = nI (16 * ((dkL d).length - 1)) := by
      have : nI (dkSz d) - nI 16 = nI (dkSz d - 16) := zi_sub (by omega)
      rw [show (16 : Int32) = nI 16 from rfl, this]
      congr 1
      omega
    have c0 : (0 : Int32) ≤ nI (16 * ((dkL d).length - 1)) := Int32.not_lt.mp (zi_neg (by omega))
    have c0' := eq_true c0
    have n1 : (nI (16 * ((dkL d).length - 1) + 1)).toNatClampNeg = 16 * ((dkL d).length - 1) + 1 := zi_nat (by omega)
    have g1 : ¬ nI (16 * ((dkL d).length - 1) + 1) < 0 := zi_neg (by omega)
    have l1 : ¬ 512 * u ≤ 16 * ((dkL d).length - 1) + 1 := by omega
    have n2 : (nI (16 * ((dkL d).length - 1) + 2)).toNatClampNeg = 16 * ((dkL d).length - 1) + 2 := zi_nat (by omega)
    have g2 : ¬ nI (16 * ((dkL d).length - 1) + 2) < 0 := zi_neg (by omega)
    have l2 : ¬ 512 * u ≤ 16 * ((dkL d).length - 1) + 2 := by omega
    have b1 := y6 (16 * ((dkL d).length - 1) + 1) (by omega)
    have b2 := y6 (16 * ((dkL d).length - 1) + 2) (by omega)
    rw [dkb_at (by omega) (by omega)] at b1 b2
    have W := cB_T hr
    rw [e1, ← W]
    simp only [f_X5_lastTerm, o10, o00, bh, isO, inR, ck_true, bind_some9, Nat.reduceLeDiff, Nat.reduceEqDiff, and_self, and_true, true_and, false_and, and_false, not_false_eq_true, not_true_eq_false, or_self, or_false, false_or, if_true, if_false, reduceIte, zR_pE, zT_pE, zL_pE, zn_pE, zE_pE, zI_pE, zQ_pE, zJ_pE, zR_pI, zT_pI, zL_pI, zn_pI, zE_pI, zI_pI, zQ_pI, zJ_pI, zR_pR, zT_pR, zL_pR, zn_pR, zE_pR, zI_pR, zQ_pR, zJ_pR, zR_pJ, zT_pJ, zL_pJ, zn_pJ, zE_pJ, zI_pJ, zQ_pJ, zJ_pJ, oD, y3, e16, c0', y2, oB, lB, zi_one, zp2, n1, g1, l1, n2, g2, l2, b1, b2]
theorem c_ahead {D2 B2 u2 num2 : Nat} {l : Dk} (y : dkC h D B u num d) (y2 : dkC h D2 B2 u2 num2 l) (hz : dkSz d < 1000000) (hz2 : dkSz l < 1000000) (hT : dkT d = 0) (hT2 : dkT l = 0) (hm : dkM d) (hm2 : dkM l) (b1 : dkLast d < 65536) (b2 : dkLast l < 65536) : f_X5_isAheadOf D D2 h = some (if dkAhead d l = true then 1 else 0, h) := by
  have e1 := c_lastTerm y hz hT hm
  have e2 := c_lastTerm y2 hz2 hT2 hm2
  have oD := y.1.1
  have oD2 := y2.1.1
  have s1 := y.1.2.2.2.1.1
  have s2 := y2.1.2.2.2.1.1
  have q1 : nI (dkLast l) < nI (dkLast d) ↔ dkLast l < dkLast d := zi_lt (by omega) (by omega)
  have q2 : nI (dkLast d) = nI (dkLast l) ↔ dkLast d = dkLast l := zi_eq (by omega) (by omega)
  have q3 : nI (dkSz d) ≤ nI (dkSz l) ↔ dkSz d ≤ dkSz l := zi_le (by omega) (by omega)
  have z1 : dkSz d = 16 * (dkL d).length := by unfold dkSz; omega
  have z2 : dkSz l = 16 * (dkL l).length := by unfold dkSz; omega
  unfold dkAhead
  by_cases c1 : dkLast l < dkLast d
  · have d1 := eq_true (q1.mpr c1)
    rw [decide_eq_true (show dkLast d > dkLast l from c1), Bool.true_or, if_pos rfl]
    simp only [f_X5_isAheadOf, o10, o00, bh, isO, inR, ck_true, bind_some9, Nat.reduceLeDiff, Nat.reduceEqDiff, and_self, and_true, true_and, false_and, and_false, not_false_eq_true, not_true_eq_false, or_self, or_false, false_or, if_true, if_false, reduceIte, zR_pE, zT_pE, zL_pE, zn_pE, zE_pE, zI_pE, zQ_pE, zJ_pE, zR_pI, zT_pI, zL_pI, zn_pI, zE_pI, zI_pI, zQ_pI, zJ_pI, zR_pR, zT_pR, zL_pR, zn_pR, zE_pR, zI_pR, zQ_pR, zJ_pR, zR_pJ, zT_pJ, zL_pJ, zn_pJ, zE_pJ, zI_pJ, zQ_pJ, zJ_pJ, oD, oD2, e1, e2, d1]
  · have d1 := eq_false (fun z => c1 (q1.mp z))
    rw [decide_eq_false (show ¬ dkLast d > dkLast l from c1), Bool.false_or]
    by_cases c2 : dkLast d = dkLast l
    · have d2 := eq_true (q2.mpr c2)
      rw [decide_eq_true c2, Bool.true_and]
      by_cases c3 : (dkL d).length > (dkL l).length
      · have d3 := eq_false (fun z => absurd (q3.mp z) (by omega))
        rw [decide_eq_true c3, if_pos rfl]
        simp only [f_X5_isAheadOf, o10, o00, bh, isO, inR, ck_true, bind_some9, Nat.reduceLeDiff, Nat.reduceEqDiff, and_self, and_true, true_and, false_and, and_false, not_false_eq_true, not_true_eq_false, or_self, or_false, false_or, if_true, if_false, reduceIte, zR_pE, zT_pE, zL_pE, zn_pE, zE_pE, zI_pE, zQ_pE, zJ_pE, zR_pI, zT_pI, zL_pI, zn_pI, zE_pI, zI_pI, zQ_pI, zJ_pI, zR_pR, zT_pR, zL_pR, zn_pR, zE_pR, zI_pR, zQ_pR, zJ_pR, zR_pJ, zT_pJ, zL_pJ, zn_pJ, zE_pJ, zI_pJ, zQ_pJ, zJ_pJ, oD, oD2, e1, e2, d1, d2, s1, s2, d3]
      · have d3 := eq_true (q3.mpr (by omega))
        rw [decide_eq_false c3, if_neg (fun z => Bool.noConfusion z)]
        simp only [f_X5_isAheadOf, o10, o00, bh, isO, inR, ck_true, bind_some9, Nat.reduceLeDiff, Nat.reduceEqDiff, and_self, and_true, true_and, false_and, and_false, not_false_eq_true, not_true_eq_false, or_self, or_false, false_or, if_true, if_false, reduceIte, zR_pE, zT_pE, zL_pE, zn_pE, zE_pE, zI_pE, zQ_pE, zJ_pE, zR_pI, zT_pI, zL_pI, zn_pI, zE_pI, zI_pI, zQ_pI, zJ_pI, zR_pR, zT_pR, zL_pR, zn_pR, zE_pR, zI_pR, zQ_pR, zJ_pR, zR_pJ, zT_pJ, zL_pJ, zn_pJ, zE_pJ, zI_pJ, zQ_pJ, zJ_pJ, oD, oD2, e1, e2, d1, d2, s1, s2, d3]
    · have d2 := eq_false (fun z => c2 (q2.mp z))
      rw [decide_eq_false c2, Bool.false_and, if_neg (fun z => Bool.noConfusion z)]
      simp only [f_X5_isAheadOf, o10, o00, bh, isO, inR, ck_true, bind_some9, Nat.reduceLeDiff, Nat.reduceEqDiff, and_self, and_true, true_and, false_and, and_false, not_false_eq_true, not_true_eq_false, or_self, or_false, false_or, if_true, if_false, reduceIte, zR_pE, zT_pE, zL_pE, zn_pE, zE_pE, zI_pE, zQ_pE, zJ_pE, zR_pI, zT_pI, zL_pI, zn_pI, zE_pI, zI_pI, zQ_pI, zJ_pI, zR_pR, zT_pR, zL_pR, zn_pR, zE_pR, zI_pR, zQ_pR, zJ_pR, zR_pJ, zT_pJ, zL_pJ, zn_pJ, zE_pJ, zI_pJ, zQ_pJ, zJ_pJ, oD, oD2, e1, e2, d1, d2]
/-- records are held against each other -/
theorem c_same_go {D2 B2 u2 num2 : Nat} {l : Dk} (y : dkC h D B u num d) (y2 : dkC h D2 B2 u2 num2 l) (hz : dkSz d < 1000000) (hz2 : dkSz l < 1000000) {k : Nat} (hk : k < (dkL d).length) (hk2 : k < (dkL l).length) : ∀ (m j fuel : Nat), j + m = 16 → m < fuel → f_X5_sameRecord_5 fuel D D2 (nI k) (nI (16 * k + j)) h = some (1, h) ∧ (∀ i, j ≤ i → i < 16 → cBt ((dkL d).getD k r0) i = cBt ((dkL l).getD k r0) i) ∨ f_X5_sameRecord_5 fuel D D2 (nI k) (nI (16 * k + j)) h = some (0, h) ∧ ¬ (∀ i, j ≤ i → i < 16 → cBt ((dkL d).getD k r0) i = cBt ((dkL l).getD k r0) i)
  | m, j, 0, _, hf => absurd hf (Nat.not_lt_zero _)
  | 0, j, fuel + 1, hj, hf => by
    have e1 : (nI k + 1) * (16 : Int32) = nI (16 * k + 16) := by rw [zi_one, show (16 : Int32) = nI 16 from rfl, zi_mul]; congr 1; omega
    have c : nI (16 * k + 16) ≤ nI (16 * k + j) := (zi_le (by unfold dkSz at hz; omega) (by unfold dkSz at hz; omega)).mpr (by omega)
    refine Or.inl ⟨?_, fun i h1 h2 => by omega⟩
    unfold f_X5_sameRecord_5
    rw [e1, if_pos c]
  | m + 1, j, fuel + 1, hj, hf => by
    have sd : 16 * k + 15 < dkSz d := by unfold dkSz; omega
    have sl : 16 * k + 15 < dkSz l := by unfold dkSz; omega
    have e1 : (nI k + 1) * (16 : Int32) = nI (16 * k + 16) := by rw [zi_one, show (16 : Int32) = nI 16 from rfl, zi_mul]; congr 1; omega
    have c : ¬ nI (16 * k + 16) ≤ nI (16 * k + j) := zi_le0 (by omega) (by omega) (by omega)
    obtain ⟨⟨oD, -, ⟨r1, oB, lB, -⟩, ⟨s1, hle⟩, -, p6, -⟩, -⟩ := id y
    obtain ⟨⟨oD2, -, ⟨r2, oB2, lB2, -⟩, ⟨s2, hle2⟩, -, p62, -⟩, -⟩ := id y2
    have c1 : ¬ nI (dkSz d) ≤ nI (16 * k + j) := zi_le0 (by omega) (by omega) (by omega)
    have c2 : ¬ nI (dkSz l) ≤ nI (16 * k + j) := zi_le0 (by omega) (by omega) (by omega)
    have ni : (nI (16 * k + j)).toNatClampNeg = 16 * k + j := zi_nat (by omega)
    have gi : ¬ nI (16 * k + j) < 0 := zi_neg (by omega)
    have l1 : ¬ 512 * u ≤ 16 * k + j := by omega
    have l2 : ¬ 512 * u2 ≤ 16 * k + j := by omega
    have b1 := p6 (16 * k + j) (by omega)
    have b2 := p62 (16 * k + j) (by omega)
    rw [dkb_at hk (by omega)] at b1
    rw [dkb_at hk2 (by omega)] at b2
    have ih := c_same_go y y2 hz hz2 hk hk2 m (j + 1) fuel (by omega) (by omega)
    by_cases ce : cBt ((dkL d).getD k r0) j = cBt ((dkL l).getD k r0) j
    · have de := eq_true ce
      have eI : (∀ i, j ≤ i → i < 16 → cBt ((dkL d).getD k r0) i = cBt ((dkL l).getD k r0) i) ↔ (∀ i, j + 1 ≤ i → i < 16 → cBt ((dkL d).getD k r0) i = cBt ((dkL l).getD k r0) i) := by
        constructor
        · exact fun H i h1 h2 => H i (by omega) h2
        · intro H i h1 h2
          by_cases ci : i = j
          · rw [ci]; exact ce
          · exact H i (by omega) h2
      have e2 : nI (16 * k + j) + (1 : Int32) = nI (16 * k + (j + 1)) := zi_one _
      have fin : f_X5_sameRecord_5 (fuel + 1) D D2 (nI k) (nI (16 * k + j)) h = f_X5_sameRecord_5 fuel D D2 (nI k) (nI (16 * k + (j + 1))) h := by
        simp only [f_X5_sameRecord_5, o10, o00, bh, isO, inR, ck_true, bind_some9, Nat.reduceLeDiff, Nat.reduceEqDiff, and_self, and_true, true_and, false_and, and_false, not_false_eq_true, not_true_eq_false, or_self, or_false, false_or, if_true, if_false, reduceIte, zR_pE, zT_pE, zL_pE, zn_pE, zE_pE, zI_pE, zQ_pE, zJ_pE, zR_pI, zT_pI, zL_pI, zn_pI, zE_pI, zI_pI, zQ_pI, zJ_pI, zR_pR, zT_pR, zL_pR, zn_pR, zE_pR, zI_pR, zQ_pR, zJ_pR, zR_pJ, zT_pJ, zL_pJ, zn_pJ, zE_pJ, zI_pJ, zQ_pJ, zJ_pJ, e1, c, oD, s1, c1, oD2, s2, c2, r1, oB, lB, ni, gi, l1, r2, oB2, lB2, l2, b1, b2, de, e2]
      rw [fin]
      rcases ih with ⟨i1, i2⟩ | ⟨i1, i2⟩
      · exact Or.inl ⟨i1, eI.mpr i2⟩
      · exact Or.inr ⟨i1, fun z => i2 (eI.mp z)⟩
    · have de := eq_false ce
      refine Or.inr ⟨?_, fun H => ce (H j (Nat.le_refl _) (by omega))⟩
      simp only [f_X5_sameRecord_5, o10, o00, bh, isO, inR, ck_true, bind_some9, Nat.reduceLeDiff, Nat.reduceEqDiff, and_self, and_true, true_and, false_and, and_false, not_false_eq_true, not_true_eq_false, or_self, or_false, false_or, if_true, if_false, reduceIte, zR_pE, zT_pE, zL_pE, zn_pE, zE_pE, zI_pE, zQ_pE, zJ_pE, zR_pI, zT_pI, zL_pI, zn_pI, zE_pI, zI_pI, zQ_pI, zJ_pI, zR_pR, zT_pR, zL_pR, zn_pR, zE_pR, zI_pR, zQ_pR, zJ_pR, zR_pJ, zT_pJ, zL_pJ, zn_pJ, zE_pJ, zI_pJ, zQ_pJ, zJ_pJ, e1, c, oD, s1, c1, oD2, s2, c2, r1, oB, lB, ni, gi, l1, r2, oB2, lB2, l2, b1, b2, de]
theorem c_same {D2 B2 u2 num2 : Nat} {l : Dk} (y : dkC h D B u num d) (y2 : dkC h D2 B2 u2 num2 l) (hz : dkSz d < 1000000) (hz2 : dkSz l < 1000000) (hm : dkM d) (hm2 : dkM l) {k : Nat} (hk : k < (dkL d).length) (hk2 : k < (dkL l).length) : f_X5_sameRecord D D2 (nI k) h = some (if (dkL d).getD k r0 = (dkL l).getD k r0 then 1 else 0, h) := by
  have e := c_same_go y y2 hz hz2 hk hk2 16 0 fz (by omega) (fz_big (by omega))
  have ei : (∀ i, 0 ≤ i → i < 16 → cBt ((dkL d).getD k r0) i = cBt ((dkL l).getD k r0) i) ↔ (dkL d).getD k r0 = (dkL l).getD k r0 := by
    constructor
    · intro H
      have g1 : (dkL d).getD k r0 ∈ dkL d := by rw [List.getD_eq_getElem?_getD, List.getElem?_eq_getElem hk]; exact List.getElem_mem hk
      have g2 : (dkL l).getD k r0 ∈ dkL l := by rw [List.getD_eq_getElem?_getD, List.getElem?_eq_getElem hk2]; exact List.getElem_mem hk2
      exact cB_inj (hm.1 _ g1) (hm2.1 _ g2) (fun i hi => H i (Nat.zero_le _) hi)
    · intro H i _ _
      rw [H]
  have e2 : nI k * (16 : Int32) = nI (16 * k + 0) := by rw [show (16 : Int32) = nI 16 from rfl, zi_mul]; congr 1; omega
  have e3 : f_X5_sameRecord D D2 (nI k) h = f_X5_sameRecord_5 fz D D2 (nI k) (nI (16 * k + 0)) h := by
    unfold f_X5_sameRecord bh
    rw [e2]
  rw [e3]
  rcases e with ⟨i1, i2⟩ | ⟨i1, i2⟩
  · rw [i1, if_pos (ei.mp i2)]
  · rw [i1, if_neg (fun z => i2 (ei.mpr z))]
end Read
theorem c_alike18 {h : Hp} {D B u num D2 B2 u2 num2 : Nat} {d l : Dk} (y : dkC h D B u num d) (y2 : dkC h D2 B2 u2 num2 l) (hz : dkSz d < 1000000) (hz2 : dkSz l < 1000000) (hm : dkM d) (hm2 : dkM l) {C : Nat} (hC : C ≤ (dkL d).length) (hC2 : C ≤ (dkL l).length) (hC3 : C = (dkL d).length ∨ C = (dkL l).length) : ∀ (m k fuel : Nat), k + m = C → m < fuel → cpl (dkL d) (dkL l) = k + cpl ((dkL d).drop k) ((dkL l).drop k) → f_X6_makeAlike_18 fuel D D2 (nI k) (nI C) h = f_X6_makeAlike_39 D D2 (nI (cpl (dkL d) (dkL l))) h
  | m, k, 0, _, hf, _ => absurd hf (Nat.not_lt_zero _)
  | 0, k, fuel + 1, hk, hf, hc => by
    have sd : 16 * (dkL d).length ≤ dkSz d := by unfold dkSz; omega
    have c : nI C ≤ nI k := (zi_le (by omega) (by omega)).mpr (by omega)
    have e0 : cpl ((dkL d).drop k) ((dkL l).drop k) = 0 := by
      rcases hC3 with z | z
      · rw [List.drop_of_length_le (by omega)]; rfl
      · rw [show (dkL l).drop k = [] from List.drop_of_length_le (by omega)]
        cases (dkL d).drop k <;> rfl
    rw [hc, e0, Nat.add_zero]
    conv => lhs; unfold f_X6_makeAlike_18
    rw [if_pos c]
    rfl
  | m + 1, k, fuel + 1, hk, hf, hc => by
    have sd : 16 * (dkL d).length ≤ dkSz d := by unfold dkSz; omega
    have c : ¬ nI C ≤ nI k := zi_le0 (by omega) (by omega) (by omega)
    have oD := y.1.1
    have es := c_same y y2 hz hz2 hm hm2 (k := k) (by omega) (by omega)
    have e1 : (dkL d).drop k = (dkL d).getD k r0 :: (dkL d).drop (k + 1) := by
      rw [List.drop_eq_getElem_cons (by omega), List.getD_eq_getElem?_getD, List.getElem?_eq_getElem (by omega)]; rfl
    have e2 : (dkL l).drop k = (dkL l).getD k r0 :: (dkL l).drop (k + 1) := by
      rw [List.drop_eq_getElem_cons (by omega), List.getD_eq_getElem?_getD, List.getElem?_eq_getElem (by omega)]; rfl
    have e3 : cpl ((dkL d).drop k) ((dkL l).drop k) = if (dkL d).getD k r0 = (dkL l).getD k r0 then cpl ((dkL d).drop (k + 1)) ((dkL l).drop (k + 1)) + 1 else 0 := by rw [e1, e2]; rfl
    by_cases ce : (dkL d).getD k r0 = (dkL l).getD k r0
    · rw [if_pos ce] at es e3
      have ih := c_alike18 y y2 hz hz2 hm hm2 hC hC2 hC3 m (k + 1) fuel (by omega) (by omega) (by rw [hc, e3]; omega)
      rw [← ih]
      simp only [f_X6_makeAlike_18, o10, o00, bh, isO, inR, ck_true, bind_some9, Nat.reduceLeDiff, Nat.reduceEqDiff, and_self, and_true, true_and, false_and, and_false, not_false_eq_true, not_true_eq_false, or_self, or_false, false_or, if_true, if_false, reduceIte, zR_pE, zT_pE, zL_pE, zn_pE, zE_pE, zI_pE, zQ_pE, zJ_pE, zR_pI, zT_pI, zL_pI, zn_pI, zE_pI, zI_pI, zQ_pI, zJ_pI, zR_pR, zT_pR, zL_pR, zn_pR, zE_pR, zI_pR, zQ_pR, zJ_pR, zR_pJ, zT_pJ, zL_pJ, zn_pJ, zE_pJ, zI_pJ, zQ_pJ, zJ_pJ, c, oD, es, zi_one]
    · rw [if_neg ce] at es e3
      rw [hc, e3, Nat.add_zero]
      simp only [f_X6_makeAlike_18, o10, o00, bh, isO, inR, ck_true, bind_some9, Nat.reduceLeDiff, Nat.reduceEqDiff, and_self, and_true, true_and, false_and, and_false, not_false_eq_true, not_true_eq_false, or_self, or_false, false_or, if_true, if_false, reduceIte, zR_pE, zT_pE, zL_pE, zn_pE, zE_pE, zI_pE, zQ_pE, zJ_pE, zR_pI, zT_pI, zL_pI, zn_pI, zE_pI, zI_pI, zQ_pI, zJ_pI, zR_pR, zT_pR, zL_pR, zn_pR, zE_pR, zI_pR, zQ_pR, zJ_pR, zR_pJ, zT_pJ, zL_pJ, zn_pJ, zE_pJ, zI_pJ, zQ_pJ, zJ_pJ, c, oD, es]
      rfl
theorem dkAlike_len (d l : Dk) : (dkL (dkAlike d l)).length ≤ (dkL l).length := dkLen_alike d l
theorem cpl_len {α : Type} [DecidableEq α] : ∀ (L M : List α), cpl L M ≤ L.length ∧ cpl L M ≤ M.length
  | [], M => ⟨Nat.zero_le _, Nat.zero_le _⟩
  | a :: r, [] => ⟨Nat.zero_le _, Nat.zero_le _⟩
  | a :: r, b :: q => by
    have := cpl_len r q
    show (if a = b then cpl r q + 1 else 0) ≤ _ ∧ (if a = b then cpl r q + 1 else 0) ≤ _
    split
    · rw [List.length_cons, List.length_cons]; omega
    · exact ⟨Nat.zero_le _, Nat.zero_le _⟩
theorem c_alike {h : Hp} {own : Nat → Nat} {s v r l : Nat} {u : Nat → Nat} {q : Shd} (k : shC h own s u v q) (w : owS own) (hs : s < 4) (hr : r < 5) (hl : l < 5) (hrl : r ≠ l) (ok : dkOK (shD q r)) (hU : dkU (shD q r) = true) (hT : dkT (shD q l) = 0) (hL : (dkL (shD q r)).length ≤ 3921) (hL2 : (dkL (shD q l)).length ≤ 3921) : ∃ h1 own1 ur, f_X6_makeAlike (shA s) (shA s + (8 + 2 * r)) (shA s + (8 + 2 * l)) h = some h1 ∧ shC h1 own1 s (upf u r ur) v (shSetD q (upf (shD q) r (dkAlike (shD q r) (shD q l)))) ∧ acC s h own u v h1 own1 (upf u r ur) v := by
  obtain ⟨B, y, oB, dm⟩ := k.2.2.1 r hr
  obtain ⟨B2, y2, oB2, dm2⟩ := k.2.2.1 l hl
  generalize hd : shD q r = d at *
  generalize hd2 : shD q l = dl at *
  obtain ⟨hTd, hF⟩ := ok hU
  have sz : dkSz d = 16 * (dkL d).length := by unfold dkSz; omega
  have sz2 : dkSz dl = 16 * (dkL dl).length := by unfold dkSz; omega
  obtain ⟨cl1, cl2⟩ := cpl_len (dkL d) (dkL dl)
  have ownD : own (shA s + (8 + 2 * r)) = 10 * s + 8 := ow_at w hs (by omega) (by omega) (by omega)
  have ownD2 : own (shA s + (8 + 2 * l)) = 10 * s + 8 := ow_at w hs (by omega) (by omega) (by omega)
  obtain ⟨⟨oD, f1, ⟨r1, oBB, lB, hu⟩, ⟨s1, hle⟩, ⟨f3, f4⟩, p6, p7⟩, hT16⟩ := id y
  obtain ⟨⟨oD2, -, ⟨r2, oBB2, lB2, hu2⟩, ⟨s2, hle2⟩, -, p62, -⟩, -⟩ := id y2
  have nDB : shA s + (8 + 2 * r) ≠ B := fun z => by rw [z, oB] at ownD; omega
  have nDB2 : shA s + (8 + 2 * r) ≠ B2 := fun z => by rw [z, oB2] at ownD; omega
  have nBB : B2 ≠ B := fun z => by rw [z, oB] at oB2; omega
  -- the common part
  generalize hc : cpl (dkL d) (dkL dl) = c at *
  have hmin : ∃ C, C ≤ (dkL d).length ∧ C ≤ (dkL dl).length ∧ (C = (dkL d).length ∨ C = (dkL dl).length) ∧ (if nI (dkSz dl) < nI (dkSz d) then nI (dkSz dl) else nI (dkSz d)) / (16 : Int32) = nI C := by
    have dv : ∀ x : Nat, x ≤ 3921 → nI (16 * x) / (16 : Int32) = nI x := fun x hx => by
      have : nI (16 * x) / nI 16 = nI (16 * x / 16) := zi_div (by omega) (by omega) (by omega)
      rw [show (16 : Int32) = nI 16 from rfl, this]
      congr 1
      omega
    have q : nI (dkSz dl) < nI (dkSz d) ↔ dkSz dl < dkSz d := zi_lt (by omega) (by omega)
    by_cases z : dkSz dl < dkSz d
    · refine ⟨(dkL dl).length, by omega, Nat.le_refl _, Or.inr rfl, ?_⟩
      rw [if_pos (q.mpr z), sz2]
      exact dv _ hL2
    · refine ⟨(dkL d).length, Nat.le_refl _, by omega, Or.inl rfl, ?_⟩
      rw [if_neg (fun y => z (q.mp y)), sz]
      exact dv _ hL
  obtain ⟨C, hC1, hC2, hC3, hC4⟩ := hmin
  have e18 := c_alike18 y y2 (by omega) (by omega) dm dm2 hC1 hC2 hC3 C 0 fz (by omega) (fz_big (by omega)) (by rw [Nat.zero_add, List.drop_zero, List.drop_zero])
  rw [hc] at e18
  -- the disk is cut
  have e16 : nI c * (16 : Int32) = nI (16 * c) := by rw [show (16 : Int32) = nI 16 from rfl, zi_mul]; congr 1; omega
  have fC : cf (dyS (shA s + (8 + 2 * r)) B) h (pI h 602 (shA s + (8 + 2 * r)) (nI (16 * c))) := cf_pI (Or.inl ⟨rfl, by omega, by omega⟩)
  generalize hg : pI h 602 (shA s + (8 + 2 * r)) (nI (16 * c)) = g at *
  have lt : ((dkL d).take c).length = c := by rw [List.length_take]; omega
  have yg : dkC g (shA s + (8 + 2 * r)) B (u r) r ((dkL d).take c, dkU d, dkF d, 0, dkR d) := by
    have szg : dkSz ((dkL d).take c, dkU d, dkF d, 0, dkR d) = 16 * c := by show 16 * ((dkL d).take c).length + 0 = _; rw [lt]; omega
    refine ⟨?_, by show 0 < 16; omega⟩
    rw [szg, ← hg]
    refine ⟨oD, ?_, ⟨r1, oBB, lB, hu⟩, ⟨by rw [zI_pI, if_pos ⟨rfl, rfl⟩], by omega⟩, ⟨?_, ?_⟩, fun p hp => ?_, p7⟩
    · rw [zI_pI, if_neg (by omega)]; exact f1
    · rw [zI_pI, if_neg (by omega)]; exact f3
    · rw [zI_pI, if_neg (by omega)]; exact f4
    · have e1 := p6 p (by omega)
      have e2 : dkb d p = dkb ((dkL d).take c, dkU d, dkF d, 0, dkR d) p := by
        unfold dkb dkRd
        rw [if_pos (show p / 16 < (dkL d).length by omega)]
        show _ = cBt (if p / 16 < ((dkL d).take c).length then ((dkL d).take c).getD (p / 16) r0 else _) _
        rw [lt, if_pos (show p / 16 < c by omega), List.getD_eq_getElem?_getD, List.getD_eq_getElem?_getD, List.getElem?_take, if_pos (show p / 16 < c by omega)]
      show zE h B p = _
      rw [e1, e2]
  have okg : dkOK ((dkL d).take c, dkU d, dkF d, 0, dkR d) := fun _ => ⟨rfl, hF⟩
  have oBB2g : isO g B2 20 := fC.O oBB2
  have lB2g : zL g B2 = 512 * u l := (fC.L oBB2).trans lB2
  have ld : ((dkL dl).drop c).length = (dkL dl).length - c := List.length_drop ..
  obtain ⟨h1, B1, u1, x1, x2, x3, x4, x5⟩ := c_write (rs := (dkL dl).drop c) (i := 16 * c) yg okg nDB nDB2 nBB oBB2g lB2g (by omega) (by rw [ld]; omega) (fun k9 hk9 => by
    rw [ld] at hk9
    have e1 : zE g B2 (16 * c + k9) = zE h B2 (16 * c + k9) := fC.E oBB2 (fun z => by
      rcases z with z | z
      · rw [z.1] at nDB2; exact nDB2 rfl
      · exact nBB z)
    rw [e1, p62 _ (by omega)]
    unfold dkb dkRd
    rw [show (16 * c + k9) / 16 = c + k9 / 16 by omega, show (16 * c + k9) % 16 = k9 % 16 by omega, if_pos (show c + k9 / 16 < (dkL dl).length by omega), List.getD_eq_getElem?_getD, List.getD_eq_getElem?_getD, List.getElem?_drop]) (by show 16 * (((dkL d).take c).length + ((dkL dl).drop c).length) + 16 ≤ 62800; rw [lt, ld]; omega)
  have eA : dkWrites ((dkL d).take c, dkU d, dkF d, 0, dkR d) ((dkL dl).drop c) = dkAlike d dl := by
    unfold dkAlike
    rw [hc]
  rw [eA] at x2
  have eto : 16 * c + 16 * ((dkL dl).drop c).length = dkSz dl := by rw [ld]; omega
  rw [eto] at x1
  have ex : exO own (fun a => if a < zn h then own a else 10 * s + r) h := fun a ha => if_pos ha
  have zg : zn g = zn h := by rw [← hg]; rfl
  have zsg : zs g = zs h := by rw [← hg]; rfl
  have oB1 : (if B1 < zn h then own B1 else 10 * s + r) = 10 * s + r := by
    rcases x3 with z | z
    · rw [z]
      split
      · exact oB
      · rfl
    · rw [if_neg (by omega)]
  have fall : cf (dyS (shA s + (8 + 2 * r)) B) h h1 := fC.tr x4
  refine ⟨h1, fun a => if a < zn h then own a else 10 * s + r, u1, ?_, k.disk w hs hr fall ex (fun a j z => ?_) ⟨B1, x2, oB1, dkM_alike dm dm2⟩, ⟨ex, fall.mono (fun a j _ z => ?_), ?_, ?_⟩⟩
  · have i602 : zI g 602 (shA s + (8 + 2 * r)) = nI (16 * c) := by rw [← hg, zI_pI, if_pos ⟨rfl, rfl⟩]
    have i602l : zI g 602 (shA s + (8 + 2 * l)) = nI (dkSz dl) := by rw [← hg, zI_pI, if_neg (by omega)]; exact s2
    have r601l : zR g 601 (shA s + (8 + 2 * l)) = B2 := by rw [← hg]; exact r2
    have oDl : isO g (shA s + (8 + 2 * l)) 6 := by rw [← hg]; exact oD2
    unfold f_X6_makeAlike bh
    rw [ck_yes oD, ck_yes oD2, s1, s2, hC4]
    have e18' : f_X6_makeAlike_18 fz (shA s + (8 + 2 * r)) (shA s + (8 + 2 * l)) 0 (nI C) h = f_X6_makeAlike_39 (shA s + (8 + 2 * r)) (shA s + (8 + 2 * l)) (nI c) h := (congrArg (fun z => f_X6_makeAlike_18 fz (shA s + (8 + 2 * r)) (shA s + (8 + 2 * l)) z (nI C) h) zi_zero).trans e18
    show f_X6_makeAlike_18 fz (shA s + (8 + 2 * r)) (shA s + (8 + 2 * l)) 0 (nI C) h = _
    rw [e18']
    unfold f_X6_makeAlike_39 bh
    rw [ck_yes oD, e16, hg]
    show ck (isO g (shA s + (8 + 2 * l)) 6) ((f_X5_write (shA s + (8 + 2 * r)) (zR g 601 (shA s + (8 + 2 * l))) (zI g 602 (shA s + (8 + 2 * r))) (zI g 602 (shA s + (8 + 2 * l))) g).bind (fun q12 => some q12)) = _
    rw [ck_yes oDl, r601l, i602, i602l, x1]
    rfl
  · rcases z with z | z
    · exact Or.inl z.1
    · rw [z]; exact Or.inr oB
  · rcases z with z | z
    · rw [z.1, ownD]; omega
    · rw [z, oB]; omega
  · have := usum_up u hr u1
    unfold rmD at x5
    omega
  · have := usum_up u hr u1
    unfold rmD at x5
    omega
theorem c_cand_go {h : Hp} {own : Nat → Nat} {s v : Nat} {u : Nat → Nat} {q : Shd} (k : shC h own s u v q) (hZ : shZ q ≤ 5) (ok : ∀ x, x < shZ q → dkOK (shD q x) ∧ (dkL (shD q x)).length ≤ 3921 ∧ dkLast (shD q x) < 65536) : ∀ (m r fuel : Nat) (b : Int32), r + m = shZ q → m < fuel → (b = -1 ∨ ∃ x, x < r ∧ b = nI x ∧ dkU (shD q x) = true) → f_X6_candidate_4 fuel (shA s) b (nI r) h = some ((List.range' r m).foldl (fun b r => if dkU (shD q r) = true ∧ (b = -1 ∨ dkAhead (shD q r) (shD q b.toNatClampNeg) = true) then Int32.ofNat r else b) b, h)
  | m, r, 0, b, _, hf, _ => absurd hf (Nat.not_lt_zero _)
  | 0, r, fuel + 1, b, hr, hf, hb => by
    obtain ⟨⟨⟨o, -⟩, -⟩, ⟨e7, -⟩, -⟩ := k
    have g2 : nI (shZ q) ≤ nI r := (zi_le (by omega) (by omega)).mpr (by omega)
    unfold f_X6_candidate_4
    rw [ck_yes o, e7, if_pos g2]
    rfl
  | m + 1, r, fuel + 1, b, hr, hf, hb => by
    obtain ⟨⟨⟨o, -, -, -, r703, -⟩, ⟨o1, l1, q1⟩, -⟩, ⟨e7, -⟩, k3, -⟩ := id k
    have g2 : ¬ nI (shZ q) ≤ nI r := zi_le0 (by omega) (by omega) (by omega)
    have nr : (nI r).toNatClampNeg = r := zi_nat (by omega)
    have gr : ¬ nI r < 0 := zi_neg (by omega)
    have lr : ¬ 5 ≤ r := by omega
    obtain ⟨B, y, -, dm⟩ := k3 r (by omega)
    have oD := y.1.1
    have e3 := y.1.2.2.2.2.1.1
    have qr := q1 r (by omega)
    rw [List.range'_succ, List.foldl_cons]
    cases hu : dkU (shD q r) with
    | false =>
      rw [hu, if_neg (fun z => Bool.noConfusion z)] at e3
      rw [if_neg (fun z => Bool.noConfusion z.1)]
      have ih := c_cand_go k hZ ok m (r + 1) fuel b (by omega) (by omega) (hb.imp id (fun ⟨x, h1, h2⟩ => ⟨x, by omega, h2⟩))
      rw [← ih]
      simp only [f_X6_candidate_4, f_X6_candidate_49, o10, o00, bh, isO, inR, ck_true, bind_some9, Nat.reduceLeDiff, Nat.reduceEqDiff, and_self, and_true, true_and, false_and, and_false, not_false_eq_true, not_true_eq_false, or_self, or_false, false_or, if_true, if_false, reduceIte, zR_pE, zT_pE, zL_pE, zn_pE, zE_pE, zI_pE, zQ_pE, zJ_pE, zR_pI, zT_pI, zL_pI, zn_pI, zE_pI, zI_pI, zQ_pI, zJ_pI, zR_pR, zT_pR, zL_pR, zn_pR, zE_pR, zI_pR, zQ_pR, zJ_pR, zR_pJ, zT_pJ, zL_pJ, zn_pJ, zE_pJ, zI_pJ, zQ_pJ, zJ_pJ, o, e7, g2, r703, o1, l1, nr, gr, lr, qr, oD, e3, zi_one]
    | true =>
      rw [hu, if_pos rfl] at e3
      have d10 := o10
      by_cases cb : b = -1
      · rw [if_pos ⟨rfl, Or.inl cb⟩]
        have ih := c_cand_go k hZ ok m (r + 1) fuel (nI r) (by omega) (by omega) (Or.inr ⟨r, by omega, rfl, hu⟩)
        have db := eq_true cb
        show _ = some ((List.range' (r + 1) m).foldl _ (nI r), h)
        rw [← ih]
        simp only [f_X6_candidate_4, f_X6_candidate_49, f_X6_candidate_47, o10, o00, bh, isO, inR, ck_true, bind_some9, Nat.reduceLeDiff, Nat.reduceEqDiff, and_self, and_true, true_and, false_and, and_false, not_false_eq_true, not_true_eq_false, or_self, or_false, false_or, if_true, if_false, reduceIte, zR_pE, zT_pE, zL_pE, zn_pE, zE_pE, zI_pE, zQ_pE, zJ_pE, zR_pI, zT_pI, zL_pI, zn_pI, zE_pI, zI_pI, zQ_pI, zJ_pI, zR_pR, zT_pR, zL_pR, zn_pR, zE_pR, zI_pR, zQ_pR, zJ_pR, zR_pJ, zT_pJ, zL_pJ, zn_pJ, zE_pJ, zI_pJ, zQ_pJ, zJ_pJ, o, e7, g2, r703, o1, l1, nr, gr, lr, qr, oD, e3, db, zi_one]
      · have db := eq_false cb
        obtain ⟨x, hx, rfl, hux⟩ := hb.resolve_left cb
        have nx : (nI x).toNatClampNeg = x := zi_nat (by omega)
        have gx : ¬ nI x < 0 := zi_neg (by omega)
        have lx : ¬ 5 ≤ x := by omega
        obtain ⟨B2, y2, -, dm2⟩ := k3 x (by omega)
        have qx := q1 x (by omega)
        obtain ⟨o1r, o2r, o3r⟩ := ok r (by omega)
        obtain ⟨o1x, o2x, o3x⟩ := ok x (by omega)
        have tr := (o1r hu).1
        have tx := (o1x hux).1
        have ea := c_ahead y y2 (by unfold dkSz; omega) (by unfold dkSz; omega) tr tx dm dm2 o3r o3x
        rw [nx]
        cases ha : dkAhead (shD q r) (shD q x) with
        | true =>
          rw [ha, if_pos rfl] at ea
          rw [if_pos ⟨rfl, Or.inr rfl⟩]
          have ih := c_cand_go k hZ ok m (r + 1) fuel (nI r) (by omega) (by omega) (Or.inr ⟨r, by omega, rfl, hu⟩)
          show _ = some ((List.range' (r + 1) m).foldl _ (nI r), h)
          rw [← ih]
          simp only [f_X6_candidate_4, f_X6_candidate_49, f_X6_candidate_47, o10, o00, bh, isO, inR, ck_true, bind_some9, Nat.reduceLeDiff, Nat.reduceEqDiff, and_self, and_true, true_and, false_and, and_false, not_false_eq_true, not_true_eq_false, or_self, or_false, false_or, if_true, if_false, reduceIte, zR_pE, zT_pE, zL_pE, zn_pE, zE_pE, zI_pE, zQ_pE, zJ_pE, zR_pI, zT_pI, zL_pI, zn_pI, zE_pI, zI_pI, zQ_pI, zJ_pI, zR_pR, zT_pR, zL_pR, zn_pR, zE_pR, zI_pR, zQ_pR, zJ_pR, zR_pJ, zT_pJ, zL_pJ, zn_pJ, zE_pJ, zI_pJ, zQ_pJ, zJ_pJ, o, e7, g2, r703, o1, l1, nr, gr, lr, qr, oD, e3, db, nx, gx, lx, qx, ea, zi_one]
        | false =>
          rw [ha, if_neg (fun z => Bool.noConfusion z)] at ea
          rw [if_neg (fun z => z.2.elim cb (fun y => Bool.noConfusion y))]
          have ih := c_cand_go k hZ ok m (r + 1) fuel (nI x) (by omega) (by omega) (Or.inr ⟨x, by omega, rfl, hux⟩)
          rw [← ih]
          simp only [f_X6_candidate_4, f_X6_candidate_49, f_X6_candidate_47, o10, o00, bh, isO, inR, ck_true, bind_some9, Nat.reduceLeDiff, Nat.reduceEqDiff, and_self, and_true, true_and, false_and, and_false, not_false_eq_true, not_true_eq_false, or_self, or_false, false_or, if_true, if_false, reduceIte, zR_pE, zT_pE, zL_pE, zn_pE, zE_pE, zI_pE, zQ_pE, zJ_pE, zR_pI, zT_pI, zL_pI, zn_pI, zE_pI, zI_pI, zQ_pI, zJ_pI, zR_pR, zT_pR, zL_pR, zn_pR, zE_pR, zI_pR, zQ_pR, zJ_pR, zR_pJ, zT_pJ, zL_pJ, zn_pJ, zE_pJ, zI_pJ, zQ_pJ, zJ_pJ, o, e7, g2, r703, o1, l1, nr, gr, lr, qr, oD, e3, db, nx, gx, lx, qx, ea, zi_one]
theorem c_cand {h : Hp} {own : Nat → Nat} {s v : Nat} {u : Nat → Nat} {q : Shd} (k : shC h own s u v q) (hZ : shZ q ≤ 5) (ok : ∀ x, x < shZ q → dkOK (shD q x) ∧ (dkL (shD q x)).length ≤ 3921 ∧ dkLast (shD q x) < 65536) : f_X6_candidate (shA s) h = some (shCand q, h) := by
  have e := c_cand_go k hZ ok (shZ q) 0 fz (-1) (by omega) (fz_big (by omega)) (Or.inl rfl)
  rw [← List.range_eq_range'] at e
  exact (congrArg (fun z => f_X6_candidate_4 fz (shA s) (-1) z h) zi_zero).trans e
/-! AN ELECTION, IN THE CLASS -/
theorem dkLast_m {d : Dk} (h : dkM d) : dkLast d < 65536 := by
  unfold dkLast lgT
  cases hz : (dkL d).getLast? with
  | none => exact (by decide : 0 < 65536)
  | some r => exact (h.1 r (List.mem_of_getLast? hz)).2.2
theorem cand_up {q : Shd} : ∀ (L : List Nat) (b : Int32), (∀ x ∈ L, x < 1000) → (b = -1 ∨ ∃ x, x < 1000 ∧ b = nI x ∧ dkU (shD q x) = true) → (L.foldl (fun b r => if dkU (shD q r) = true ∧ (b = -1 ∨ dkAhead (shD q r) (shD q b.toNatClampNeg) = true) then Int32.ofNat r else b) b = -1 ∨ ∃ x, x < 1000 ∧ L.foldl (fun b r => if dkU (shD q r) = true ∧ (b = -1 ∨ dkAhead (shD q r) (shD q b.toNatClampNeg) = true) then Int32.ofNat r else b) b = nI x ∧ dkU (shD q x) = true)
  | [], b, _, hb => hb
  | a :: t, b, hL, hb => by
    rw [List.foldl_cons]
    refine cand_up t _ (fun x hx => hL x (List.mem_cons_of_mem _ hx)) ?_
    split
    · next c => exact Or.inr ⟨a, hL a (List.mem_cons_self ..), rfl, c.1⟩
    · exact hb
def alP (D : Nat → Dk) (l r : Nat) : Nat → Dk := fun x => if x < r ∧ x ≠ l ∧ dkU (D x) = true then dkAlike (D x) (D l) else D x
theorem alP_l (D : Nat → Dk) (l r : Nat) : alP D l r l = D l := if_neg (fun z => z.2.1 rfl)
theorem alP_r (D : Nat → Dk) (l r : Nat) : alP D l r r = D r := if_neg (fun z => absurd z.1 (Nat.lt_irrefl r))
theorem alP_stay (D : Nat → Dk) {l r : Nat} (h : r = l ∨ dkU (D r) = false) : alP D l (r + 1) = alP D l r := by
  funext x
  unfold alP
  by_cases c : x = r
  · rw [c, if_neg (fun z => ?_), if_neg (fun z => absurd z.1 (Nat.lt_irrefl r))]
    rcases h with h | h
    · exact z.2.1 h
    · rw [h] at z; exact Bool.noConfusion z.2.2
  · by_cases c2 : x < r ∧ x ≠ l ∧ dkU (D x) = true
    · rw [if_pos ⟨by omega, c2.2⟩, if_pos c2]
    · rw [if_neg (fun z => c2 ⟨by omega, z.2⟩), if_neg c2]
theorem alP_step (D : Nat → Dk) {l r : Nat} (h : r ≠ l) (hu : dkU (D r) = true) : upf (alP D l r) r (dkAlike (alP D l r r) (alP D l r l)) = alP D l (r + 1) := by
  rw [alP_l, alP_r]
  funext x
  unfold upf alP
  by_cases c : x = r
  · rw [if_pos c, if_pos ⟨by omega, by rw [c]; exact h, by rw [c]; exact hu⟩, c]
  · rw [if_neg c]
    by_cases c2 : x < r ∧ x ≠ l ∧ dkU (D x) = true
    · rw [if_pos c2, if_pos ⟨by omega, c2.2⟩]
    · rw [if_neg c2, if_neg (fun z => c2 ⟨by omega, z.2⟩)]
theorem c_elect20 {s v : Nat} {q : Shd} {D : Nat → Dk} {l : Nat} (hs : s < 4) (hZ : shZ q ≤ 5) (hlZ : l < shZ q) (hL : shL q = nI l) (hT : shT q < 65536) (hul : dkU (D l) = true) (ok : ∀ x, x < shZ q → dkOK (D x) ∧ (dkL (D x)).length ≤ 3920) : ∀ (m r fuel : Nat) (h : Hp) (own u : Nat → Nat), owS own → 672 ≤ zn h → shC h own s u v (shSetD q (alP D l r)) → r + m = shZ q → m < fuel → ∃ x h1 own1 u1, f_X6_elect_20 fuel (shA s) (nI r) h = some (x, h1) ∧ x = (if (shCommit (shSetD q (alP D l (shZ q))) 13 0 (nI l) 0 0).1 = true then 1 else 0) ∧ shC h1 own1 s u1 v (shCommit (shSetD q (alP D l (shZ q))) 13 0 (nI l) 0 0).2 ∧ acC s h own u v h1 own1 u1 v
  | m, r, 0, h, own, u, _, _, _, _, hf => absurd hf (Nat.not_lt_zero _)
  | 0, r, fuel + 1, h, own, u, w, hz, k, hr, hf => by
    have er : r = shZ q := by omega
    rw [er] at k
    obtain ⟨⟨⟨o, -⟩, -⟩, ⟨e7, e8, -⟩, -⟩ := id k
    have e7 : zI h 707 (shA s) = nI (shZ q) := e7
    have e8 : zI h 708 (shA s) = nI l := e8.trans hL
    have g2 : nI (shZ q) ≤ nI r := (zi_le (by omega) (by omega)).mpr (by omega)
    obtain ⟨x, h1, own1, u1, x1, x2, x3, x4⟩ := c_commit k w hz hs hZ (Or.inr ⟨l, hlZ, hL⟩) hT (fun x hx => by
      show dkOK (alP D l (shZ q) x) ∧ (dkL (alP D l (shZ q) x)).length ≤ 3920
      unfold alP
      split
      · exact ⟨dkOK_alike _ (ok x hx).1, Nat.le_trans (dkLen_alike _ _) (ok l hlZ).2⟩
      · exact ok x hx) (kd := 13) (n := 0) (by omega) (by omega) (nI l) 0 0
    have x1 : f_X6_commit (shA s) 13 0 (nI l) 0 0 h = some (x, h1) := x1
    refine ⟨x, h1, own1, u1, ?_, x2, x3, x4⟩
    have bx : isB x := by
      rw [x2]
      split
      · exact isB_1
      · exact isB_0
    unfold f_X6_elect_20
    rw [ck_yes o, e7, if_pos g2, e8, x1]
    exact ck_yes bx
  | m + 1, r, fuel + 1, h, own, u, w, hz, k, hr, hf => by
    obtain ⟨⟨⟨o, -, -, -, r703, -⟩, ⟨o1, l1, q1⟩, -⟩, ⟨e7, e8, -⟩, k3, -⟩ := id k
    have e7 : zI h 707 (shA s) = nI (shZ q) := e7
    have e8 : zI h 708 (shA s) = nI l := e8.trans hL
    have g2 : ¬ nI (shZ q) ≤ nI r := zi_le0 (by omega) (by omega) (by omega)
    have nr : (nI r).toNatClampNeg = r := zi_nat (by omega)
    have gr : ¬ nI r < 0 := zi_neg (by omega)
    have lr : ¬ 5 ≤ r := by omega
    have nl : (nI l).toNatClampNeg = l := zi_nat (by omega)
    have gl : ¬ nI l < 0 := zi_neg (by omega)
    have ll : ¬ 5 ≤ l := by omega
    have qr := q1 r (by omega)
    have ql := q1 l (by omega)
    have ew : f_X6_works (shA s) h = some (1, h) := by
      rw [c_works k]
      show some (if shL q = -1 then (0 : Int32) else 1, h) = _
      rw [if_neg (by rw [hL]; exact zi_ne1 (by omega))]
    have qe : nI r = nI l ↔ r = l := zi_eq (by omega) (by omega)
    obtain ⟨B, y, -⟩ := k3 r (by omega)
    have oD := y.1.1
    have e3 : zI h 603 (shA s + (8 + 2 * r)) = if dkU (alP D l r r) = true then 1 else 0 := y.1.2.2.2.2.1.1
    rw [alP_r] at e3
    by_cases cl : r = l
    · have d := eq_true (qe.mpr cl)
      have k2 := k
      rw [← alP_stay D (Or.inl cl)] at k2
      obtain ⟨x, h1, own1, u1, x1, x2, x3, x4⟩ := c_elect20 hs hZ hlZ hL hT hul ok m (r + 1) fuel h own u w hz k2 (by omega) (by omega)
      refine ⟨x, h1, own1, u1, ?_, x2, x3, x4⟩
      rw [← x1]
      simp only [f_X6_elect_20, f_X6_elect_74, o10, o00, bh, isO, inR, ck_true, bind_some9, Nat.reduceLeDiff, Nat.reduceEqDiff, and_self, and_true, true_and, false_and, and_false, not_false_eq_true, not_true_eq_false, or_self, or_false, false_or, if_true, if_false, reduceIte, zR_pE, zT_pE, zL_pE, zn_pE, zE_pE, zI_pE, zQ_pE, zJ_pE, zR_pI, zT_pI, zL_pI, zn_pI, zE_pI, zI_pI, zQ_pI, zJ_pI, zR_pR, zT_pR, zL_pR, zn_pR, zE_pR, zI_pR, zQ_pR, zJ_pR, zR_pJ, zT_pJ, zL_pJ, zn_pJ, zE_pJ, zI_pJ, zQ_pJ, zJ_pJ, o, e7, g2, ew, e8, d, zi_one]
    · have d := eq_false (fun z => cl (qe.mp z))
      cases hu : dkU (D r) with
      | false =>
        rw [hu, if_neg (fun z => Bool.noConfusion z)] at e3
        have k2 := k
        rw [← alP_stay D (Or.inr hu)] at k2
        obtain ⟨x, h1, own1, u1, x1, x2, x3, x4⟩ := c_elect20 hs hZ hlZ hL hT hul ok m (r + 1) fuel h own u w hz k2 (by omega) (by omega)
        refine ⟨x, h1, own1, u1, ?_, x2, x3, x4⟩
        rw [← x1]
        simp only [f_X6_elect_20, f_X6_elect_74, o10, o00, bh, isO, inR, ck_true, bind_some9, Nat.reduceLeDiff, Nat.reduceEqDiff, and_self, and_true, true_and, false_and, and_false, not_false_eq_true, not_true_eq_false, or_self, or_false, false_or, if_true, if_false, reduceIte, zR_pE, zT_pE, zL_pE, zn_pE, zE_pE, zI_pE, zQ_pE, zJ_pE, zR_pI, zT_pI, zL_pI, zn_pI, zE_pI, zI_pI, zQ_pI, zJ_pI, zR_pR, zT_pR, zL_pR, zn_pR, zE_pR, zI_pR, zQ_pR, zJ_pR, zR_pJ, zT_pJ, zL_pJ, zn_pJ, zE_pJ, zI_pJ, zQ_pJ, zJ_pJ, o, e7, g2, ew, e8, d, r703, o1, l1, nr, gr, lr, qr, oD, e3, zi_one]
      | true =>
        rw [hu, if_pos rfl] at e3
        obtain ⟨h1, own1, ur, a1, a2, a3⟩ := c_alike (r := r) (l := l) k w hs (by omega) (by omega) cl (by show dkOK (alP D l r r); rw [alP_r]; exact (ok r (by omega)).1) (by show dkU (alP D l r r) = true; rw [alP_r]; exact hu) (by show dkT (alP D l r l) = 0; rw [alP_l]; exact ((ok l hlZ).1 hul).1) (by show (dkL (alP D l r r)).length ≤ 3921; rw [alP_r]; have := (ok r (by omega)).2; omega) (by show (dkL (alP D l r l)).length ≤ 3921; rw [alP_l]; have := (ok l hlZ).2; omega)
        have a2 : shC h1 own1 s (upf u r ur) v (shSetD q (upf (alP D l r) r (dkAlike (alP D l r r) (alP D l r l)))) := a2
        rw [alP_step D cl hu] at a2
        obtain ⟨w1, hz1⟩ := a3.z w hz
        obtain ⟨x, h2, own2, u2, x1, x2, x3, x4⟩ := c_elect20 hs hZ hlZ hL hT hul ok m (r + 1) fuel h1 own1 _ w1 hz1 a2 (by omega) (by omega)
        refine ⟨x, h2, own2, u2, ?_, x2, x3, a3.tr x4⟩
        rw [← x1]
        simp only [f_X6_elect_20, f_X6_elect_74, o10, o00, bh, isO, inR, ck_true, bind_some9, Nat.reduceLeDiff, Nat.reduceEqDiff, and_self, and_true, true_and, false_and, and_false, not_false_eq_true, not_true_eq_false, or_self, or_false, false_or, if_true, if_false, reduceIte, zR_pE, zT_pE, zL_pE, zn_pE, zE_pE, zI_pE, zQ_pE, zJ_pE, zR_pI, zT_pI, zL_pI, zn_pI, zE_pI, zI_pI, zQ_pI, zJ_pI, zR_pR, zT_pR, zL_pR, zn_pR, zE_pR, zI_pR, zQ_pR, zJ_pR, zR_pJ, zT_pJ, zL_pJ, zn_pJ, zE_pJ, zI_pJ, zQ_pJ, zJ_pJ, o, e7, g2, ew, e8, d, r703, o1, l1, nr, gr, lr, qr, oD, e3, nl, gl, ll, ql, a1, zi_one]
theorem c_elect {vs : Nat → List Prg} {K s : Nat} (hs : s < 4) (hK : K ≤ 2000) {h : Hp} {own u : Nat → Nat} {v : Nat} {q : Shd} {C : List Rec} (w : owS own) (hz : 672 ≤ zn h) (k : shC h own s u v q) (hI : ShI vs q C) (hY : shY q ≤ lgW C + K) (hm : shMost q = true) : ∃ h1 own1 u1, f_X6_elect (shA s) h = some (if (shElect q).1 = true then 1 else 0, h1) ∧ shC h1 own1 s u1 v (shElect q).2 ∧ acC s h own u v h1 own1 u1 v := by
  obtain ⟨c1, c2, c3, c4, c5, c6⟩ := cm_ok hI hY hK
  obtain ⟨l, hl, hlZ, -⟩ := shElect_R (lgV_nil vs) (lgV_pre vs) (lgV_lead vs) hI.1 hm
  obtain ⟨⟨⟨o, -⟩, -⟩, ⟨e7, e8, e9, e10, e11⟩, k3, -⟩ := id k
  have hul : dkU (shD q l) = true := by
    rcases cand_up (q := q) (List.range (shZ q)) (-1) (fun x hx => by have := List.mem_range.mp hx; omega) (Or.inl rfl) with z | ⟨x, x1, x2, x3⟩
    · have z : shCand q = -1 := z
      rw [hl] at z
      exact absurd z (zi_ne1 (by omega))
    · have x2 : shCand q = nI x := x2
      rw [hl] at x2
      rw [(zi_eq (by omega) (by omega)).mp x2]
      exact x3
  have tq : shT q ≤ shQ q := hI.2.2.1.2.2
  have ownA : own (shA s) = 10 * s + 8 := ow_at (o := 0) w hs (by omega) (by omega) (by omega)
  have f1 : cf (fun a j => a = shA s ∧ 707 ≤ j ∧ j ≤ 711) h (pI h 709 (shA s) (nI (shT q + 1))) := cf_pI ⟨rfl, by omega, by omega⟩
  have k1 : shC (pI h 709 (shA s) (nI (shT q + 1))) own s u v (shZ q, shL q, shT q + 1, shD q, shN q, shF q, shO q, shQ q) := k.sc w hs f1 ⟨by rw [zI_pI, if_neg (by omega)]; exact e7, by rw [zI_pI, if_neg (by omega)]; exact e8, by rw [zI_pI, if_pos ⟨rfl, rfl⟩], by rw [zI_pI, if_neg (by omega)]; exact e10, e11⟩ rfl rfl rfl (Nat.le_refl _)
  have ec := c_cand k1 c1 (fun x hx => ⟨(c4 x hx).1, by have := (c4 x hx).2; show (dkL (shD q x)).length ≤ 3921; omega, by
    obtain ⟨B, -, -, dm⟩ := k3 x (by have hx : x < shZ q := hx; omega)
    exact dkLast_m dm⟩)
  have ec : f_X6_candidate (shA s) (pI h 709 (shA s) (nI (shT q + 1))) = some (nI l, pI h 709 (shA s) (nI (shT q + 1))) := by
    rw [ec]
    have : shCand ((shZ q, shL q, shT q + 1, shD q, shN q, shF q, shO q, shQ q) : Shd) = shCand q := rfl
    rw [this, hl]
  have f2 : cf (fun a j => a = shA s ∧ 707 ≤ j ∧ j ≤ 711) (pI h 709 (shA s) (nI (shT q + 1))) (pI (pI h 709 (shA s) (nI (shT q + 1))) 708 (shA s) (nI l)) := cf_pI ⟨rfl, by omega, by omega⟩
  obtain ⟨-, ⟨g7, g8, g9, g10, g11⟩, -⟩ := id k1
  have k2 : shC (pI (pI h 709 (shA s) (nI (shT q + 1))) 708 (shA s) (nI l)) own s u v (shZ q, nI l, shT q + 1, shD q, shN q, shF q, shO q, shQ q) := k1.sc w hs f2 ⟨by rw [zI_pI, if_neg (by omega)]; exact g7, by rw [zI_pI, if_pos ⟨rfl, rfl⟩], by rw [zI_pI, if_neg (by omega)]; exact g9, by rw [zI_pI, if_neg (by omega)]; exact g10, g11⟩ rfl rfl rfl (Nat.le_refl _)
  have f12 : acC s h own u v (pI (pI h 709 (shA s) (nI (shT q + 1))) 708 (shA s) (nI l)) own u v := acC.nz ((f1.tr f2).mono (fun a j _ z => by rw [z.1, ownA]; omega)) rfl
  generalize hg2 : pI (pI h 709 (shA s) (nI (shT q + 1))) 708 (shA s) (nI l) = g2 at *
  have hz2 : 672 ≤ zn g2 := by rw [← hg2]; exact hz
  have e0 : alP (shD q) l 0 = shD q := by
    funext x
    exact if_neg (fun z => absurd z.1 (Nat.not_lt_zero x))
  have k3' : shC g2 own s u v (shSetD (shZ q, nI l, shT q + 1, shD q, shN q, shF q, shO q, shQ q) (alP (shD q) l 0)) := by
    rw [e0]; exact k2
  obtain ⟨x, h1, own1, u1, x1, x2, x3, x4⟩ := c_elect20 (q := (shZ q, nI l, shT q + 1, shD q, shN q, shF q, shO q, shQ q)) (D := shD q) (l := l) hs c1 hlZ rfl (by show shT q + 1 < 65536; omega) hul c4 (shZ q) 0 fz g2 own u w hz2 k3' (by show 0 + shZ q = shZ q; omega) (fz_big (by omega))
  have eE := shElect_eq hl (by omega)
  have eA : shSetD ((shZ q, nI l, shT q + 1, shD q, shN q, shF q, shO q, shQ q) : Shd) (alP (shD q) l (shZ ((shZ q, nI l, shT q + 1, shD q, shN q, shF q, shO q, shQ q) : Shd))) = (shZ q, nI l, shT q + 1, shAlike q l, shN q, shF q, shO q, shQ q) := rfl
  rw [eA, ← eE] at x2 x3
  refine ⟨h1, own1, u1, ?_, x3, f12.tr x4⟩
  have x1 : f_X6_elect_20 fz (shA s) 0 g2 = some (x, h1) := (congrArg (fun z => f_X6_elect_20 fz (shA s) z g2) zi_zero).trans x1
  rw [← x2, ← x1]
  rw [← hg2]
  simp only [f_X6_elect, o10, o00, bh, isO, inR, ck_true, bind_some9, Nat.reduceLeDiff, Nat.reduceEqDiff, and_self, and_true, true_and, false_and, and_false, not_false_eq_true, not_true_eq_false, or_self, or_false, false_or, if_true, if_false, reduceIte, zR_pE, zT_pE, zL_pE, zn_pE, zE_pE, zI_pE, zQ_pE, zJ_pE, zR_pI, zT_pI, zL_pI, zn_pI, zE_pI, zI_pI, zQ_pI, zJ_pI, zR_pR, zT_pR, zL_pR, zn_pR, zE_pR, zI_pR, zQ_pR, zJ_pR, zR_pJ, zT_pJ, zL_pJ, zn_pJ, zE_pJ, zI_pJ, zQ_pJ, zJ_pJ, o, e9, zi_one, ec]
/-! A LOG IS READ, IN THE CLASS -/
theorem c_takeS {vs : Nat → List Prg} {now : Int32} {h : Hp} {own : Nat → Nat} {s v n : Nat} {u : Nat → Nat} {q : Shd} (w : owS own) (hs : s < 4) (k : shC h own s u v q) (hn : n < shN q) (p1 : prgOK (flP (shF q n))) (p5 : wkG (flP (shF q n)) (flE (shF q n)) (flW (shF q n))) (l5 : flW (shF q n) = rpR (flP (shF q n)) (flE (shF q n))) (h60 : (flE (shF q n)).length < 60) (e : Evt) (e1 : 1 ≤ e.1) (e12 : e.1 ≤ 12) (eok : evOK (flP (shF q n)) (flE (shF q n)) e) : ∃ h2, f_X9_take (wfA s n) (nI e.1) e.2.1 e.2.2.1 e.2.2.2 now h = some h2 ∧ shC h2 own s u v (shSetF q n (flTake (shF q n) e now)) ∧ acC s h own u v h2 own u v := by
  have hN := k.2.2.2.2.1.1
  have wf1 := k.2.2.2.1 n (by omega)
  have wf1 : wfC h (wfA s n) (s + 4 * n) (shF q n) := wf1
  have pr1 := k.2.2.2.2.1.2 n hn
  have pr1 : prC h own (zR h 1004 (wfA s n)) (flP (shF q n)) := pr1
  obtain ⟨pg, pn⟩ := pg_of w hs (by omega) pr1
  obtain ⟨g1, g2, g3, g4, g5, g6, g7, g8, g9⟩ := id p5
  have s60 := p1.1
  have setv : (e.1 = 6 ∨ e.1 = 2 ∨ e.1 = 3 ∨ (e.1 = 8 ∧ wkP (flW (shF q n)) = 2) ∨ (e.1 = 7 ∧ wkP (flW (shF q n)) = 3)) → wkS (flW (shF q n)) < (flP (shF q n)).length → ∃ v, v < 8 ∧ (stpAt (flP (shF q n)) (wkS (flW (shF q n)))).2.1 = nI v := fun hc9 hS => by
    have sets : ∀ L : Int32, (stpAt (flP (shF q n)) (wkS (flW (shF q n)))).1 = L → stSets L → L ≠ 71 → L ≠ 73 → L ≠ 84 → L ≠ 83 → L ≠ 69 → ∃ v, v < 8 ∧ (stpAt (flP (shF q n)) (wkS (flW (shF q n)))).2.1 = nI v := fun L hL hs9 n1 n2 n3 n4 n5 => by
      rcases (p1.2 _ hS).2.2 with ⟨-, z⟩ | ⟨z, -⟩ | z
      · exact z
      · rw [hL] at z; rcases z with z | z
        · exact absurd z n1
        · exact absurd z n2
      · rw [hL] at z; rcases z with z | z | z
        · exact absurd z n3
        · exact absurd z n4
        · exact absurd z n5
    have ph : (e.1 = 2 ∨ e.1 = 3) → wkP (flW (shF q n)) = 0 := fun z => by
      rw [l5]
      obtain ⟨-, -, -, h9⟩ := eok
      rcases h9 with h9 | ⟨h9, -⟩ | ⟨-, nw, hw⟩ | ⟨h9, -⟩ | ⟨-, h9⟩ | ⟨-, h9⟩
      · omega
      · omega
      · obtain ⟨-, hw⟩ := wkWish_lt hw (by omega)
        omega
      · exact h9
      · omega
      · omega
    rcases hc9 with z | z | z | ⟨z1, z2⟩ | ⟨z1, z2⟩
    · obtain ⟨nw, hw⟩ := evOK_wish2 eok (Or.inr (Or.inr (Or.inl z)))
      rw [← l5, z] at hw
      obtain ⟨-, hw⟩ := wkWish_lt hw (by omega)
      rcases hw with ⟨y, -⟩ | ⟨y, -⟩ | ⟨-, y⟩ | ⟨y, -⟩
      · omega
      · omega
      · exact sets 67 y (by unfold stSets; decide) (by decide) (by decide) (by decide) (by decide) (by decide)
      · omega
    · exact sets 65 (g6 (ph (by omega))).2 (by unfold stSets; decide) (by decide) (by decide) (by decide) (by decide) (by decide)
    · exact sets 65 (g6 (ph (by omega))).2 (by unfold stSets; decide) (by decide) (by decide) (by decide) (by decide) (by decide)
    · exact sets 87 (g8 z2).2 (by unfold stSets; decide) (by decide) (by decide) (by decide) (by decide) (by decide)
    · exact sets 74 (g9 z2).2 (by unfold stSets; decide) (by decide) (by decide) (by decide) (by decide) (by decide)
  obtain ⟨h2, z1, z2, z3, z4, z5⟩ := c_take wf1 pg pn s60 (by omega) h60 e (by omega) (by omega) setv (by omega) now
  have ow2 : ∀ p j, tkX (wfA s n) p j → shA s + (18 + 8 * n) ≤ p ∧ p ≤ shA s + (18 + 8 * n) + 7 := fun p j z => by
    unfold tkX wkX hsX wfA at z
    omega
  have own8 : ∀ p j, tkX (wfA s n) p j → own p = 10 * s + 8 := fun p j z => by
    have := ow2 p j z
    have e : p = shA s + (p - shA s) := by omega
    rw [e]
    exact ow_at w hs (by omega) (by omega) (by omega)
  refine ⟨h2, z1, k.row (n := n) (f9 := flTake (shF q n) e now) w hs (by omega) z4 ow2 z2 (fun _ => ?_), acC.nz (z4.mono (fun p j _ z => by rw [own8 p j z]; omega)) z5⟩
  have e4 : zR h2 1004 (wfA s n) = zR h 1004 (wfA s n) := z4.R wf1.1.1.1 (by unfold tkX wkX hsX; omega)
  have : prC h2 own (zR h2 1004 (wfA s n)) (flP (shF q n)) := by
    rw [e4]
    exact pr1.on z4 (exO.rf own h) (fun p j hp z => by rw [own8 p j z] at hp; omega)
  exact this
/-- a row of what has been read -/
theorem rd_ok {vs : Nat → List Prg} {q : Shd} {A : List Rec} (hv : vsOK vs) (hV : lgV vs A) (gA : stA vs (lgB A) q) {n : Nat} (hn : n < shN q) : prgOK (flP (shF q n)) ∧ 0 < (flE (shF q n)).length ∧ kOK (flE (shF q n)) ∧ wkG (flP (shF q n)) (flE (shF q n)) (flW (shF q n)) ∧ wkG (flP (shF q n)) (flE (shF q n)) (rpR (flP (shF q n)) (flE (shF q n))) ∧ flA vs (flE (shF q n)) (shF q n) ∧ flE (shF q n) = bkF (lgB A) n := by
  obtain ⟨s1, s2, s3⟩ := gA
  have hz := s3 n (by omega)
  obtain ⟨P, q1, q2, q3, q4⟩ := (bkG_log hV).2.1 n (by omega)
  obtain ⟨z1, z2, z3, z4⟩ := id hz
  have eP : flP (shF q n) = P := Option.some.inj (z2.symm.trans q1)
  rw [← z1, ← eP] at q2
  rw [← z1] at z3 hz
  have hP : prgOK (flP (shF q n)) := (hv _ (Nat.mod_lt _ (by decide))).2 _ (prgOf_mem z2)
  obtain ⟨g1, g2⟩ := wkG_all hP q2 (flE (shF q n)).length q2.1 (Nat.le_refl _)
  unfold hA at g1
  unfold hR at g2
  rw [List.take_length] at g1 g2
  refine ⟨hP, q2.1, fun e he => ?_, ?_, g2, hz, z1⟩
  · obtain ⟨k, hk⟩ := List.getElem?_of_mem he
    have hkl := (List.getElem?_eq_some_iff.mp hk).1
    have ee : evAt (flE (shF q n)) k = e := Option.some.inj ((ev_get hkl).symm.trans hk)
    rw [← ee]
    rcases Nat.eq_zero_or_pos k with z | z
    · rw [z, q2.2.2.1]; omega
    · have := (q2.2.2.2 k z hkl).2.1
      omega
  · rcases z3 with z | z
    · rw [z]; exact g1
    · rw [z]; exact g2
