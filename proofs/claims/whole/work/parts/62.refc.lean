/-! AN EVENT AND WHAT FOLLOWS, IN THE REFERENCE -/
theorem RS.w {vs : Nat → List Prg} {now : Int32} {TX : List (Nat × Nat × Nat × Prg)} {B K s : Nat} {h : Hp} {q : Shd} {C : List Rec} (R : RS vs now TX B K s h q C) : upsN (shZ q) (shD q) ≤ 5 := by
  have := upsN_le (shZ q) (shD q)
  have := R.2.1.1.1.1
  omega
/-- an act's answer and what it leaves: settled -/
def actR (vs : Nat → List Prg) (now : Int32) (TX : List (Nat × Nat × Nat × Prg)) (B K s : Nat) (h : Hp) (q : Shd) (C : List Rec) (u : Shd) (h1 : Hp) : Prop := ∃ E, frx (fpS s (B + shQ q)) h h1 ∧ C <+: E ∧ RS vs now TX B K s h1 (stl vs now u) E ∧ (shL (stl vs now u) ≠ -1 → calm (stl vs now u))
theorem w_comes {vs : Nat → List Prg} {now : Int32} {TX : List (Nat × Nat × Nat × Prg)} {B K s : Nat} {h : Hp} {q : Shd} {C : List Rec} (hs : s < 4) (R : RS vs now TX B K s h q C) (hl : shL q ≠ -1) (hc : calm q) {n k : Nat} (hn : n < shN q) {a b o : Int32} (ok : evOK (flP (shF q n)) (flE (shF q n)) (k, a, b, o)) :
    ∃ h1, f_X11_comes 616 (nI (16 * s + n)) (nI k) a b o h = some (if (shBring now q n k a b o).1 = true then 1 else 0, h1) ∧ actR vs now TX B K s h q C (shBring now q n k a b o).2 h1 := by
  have kl : KLok vs now TX B K s 5 (f_losesD 30) := losesD_ok hs 5 30 (by omega)
  have hu := R.w
  have hI := R.2.1.1
  have H := R.1.1
  have eb0 := shBring_eq now q n k a b o
  rcases w_makes hs R hl kl (by omega) hn ok with ⟨mt, h1, E, m1, m2, m3, m4, m5, m6⟩ | ⟨mf, h1, E, m1, m2, m3, m4, m5⟩
  · rw [if_neg (by rw [mt]; decide)] at eb0
    rw [eb0]
    show ∃ h1, _ = some ((if true = true then 1 else 0 : Int32), h1) ∧ _
    rw [if_pos rfl]
    obtain ⟨-, mG, mL, mN, mE, mo⟩ := (shMake_I hI hl hn ok now rfl).1 mt
    have mq := mG.2.2.2.1
    have mz := mG.2.2.1
    have mu := mG.2.2.2.2.1
    have hI1 := m3.2.1.1
    have H1 := m3.1.1
    have hn1 : n < shN (shMake now q n k a b o).2 := by rw [mN]; exact hn
    have hl1 : shL (shMake now q n k a b o).2 ≠ -1 := by rw [mL]; exact hl
    obtain ⟨r, h2, F, g1, g2, g3, g4⟩ := w_goesOn hs kl m3 hl1 hn1 (by rw [mz]; omega) m5
    have hz := hI1.2.1.2.2 n (by rw [← hI1.2.1.1]; exact hn1)
    have eg : shGo now (shMake now q n k a b o).2 n = shGoL now n 60 (flRun (shF (shMake now q n k a b o).2 n) now).1 (shMake now q n k a b o).2 := by
      unfold shGo
      rw [show (flRun (shF (shMake now q n k a b o).2 n) now).2 = shF (shMake now q n k a b o).2 n by rw [flRun_Zeq hz], setF_same]
    obtain ⟨E9, -, -, -, gw, -⟩ := shGo_I now hI1 hl1 hn1
    rw [eg] at g4 gw
    refine ⟨h2, ?_, F, m2.trans (g2.mono (fpS_le (by omega))), m4.trans g3, ?_⟩
    · simp only [f_X11_comes, o10, o00, bh, isO, inR, ck_true, bind_some9, Nat.reduceLeDiff, Nat.reduceEqDiff, and_self, and_true, true_and, false_and, and_false, not_false_eq_true, not_true_eq_false, or_self, or_false, false_or, if_true, if_false, reduceIte, RF_o H, zR_pE, zT_pE, zL_pE, zn_pE, zE_pE, zI_pE, zR_pI, zT_pI, zL_pI, zn_pI, zE_pI, zI_pI, m1, RF_o H1, g1]
    · show RS vs now TX B K s h2 (stl vs now (shGoL now n 60 (flRun (shF (shMake now q n k a b o).2 n) now).1 (shMake now q n k a b o).2)) F ∧ (shL (stl vs now (shGoL now n 60 (flRun (shF (shMake now q n k a b o).2 n) now).1 (shMake now q n k a b o).2)) ≠ -1 → calm (stl vs now (shGoL now n 60 (flRun (shF (shMake now q n k a b o).2 n) now).1 (shMake now q n k a b o).2)))
      rcases g4 with ⟨z1, -, z3, -⟩ | ⟨z1, -, z3, z4⟩
      · rw [stl_off vs now (Or.inl z1)]
        refine ⟨z3, fun _ x hx => ?_⟩
        obtain ⟨-, d2, d3⟩ := gw z1
        have hNx : shN (shGoL now n 60 (flRun (shF (shMake now q n k a b o).2 n) now).1 (shMake now q n k a b o).2) = shN q := by
          obtain ⟨E8, -, -, w3, -⟩ := shGo_I now hI1 hl1 hn1
          rw [← eg, w3, mN]
        by_cases cx : x = n
        · rw [cx]; exact d2
        · rw [d3 x cx, mo x cx]; exact hc x (by omega)
      · exact ⟨z3, z4⟩
  · rw [if_pos mf] at eb0
    rw [eb0]
    show ∃ h1, _ = some ((if false = true then 1 else 0 : Int32), h1) ∧ _
    rw [if_neg (fun z => Bool.noConfusion z)]
    refine ⟨h1, ?_, E, m2, m4, m3, m5⟩
    simp only [f_X11_comes, o10, o00, bh, isO, inR, ck_true, bind_some9, Nat.reduceLeDiff, Nat.reduceEqDiff, and_self, and_true, true_and, false_and, and_false, not_false_eq_true, not_true_eq_false, or_self, or_false, false_or, if_true, if_false, reduceIte, RF_o H, zR_pE, zT_pE, zL_pE, zn_pE, zE_pE, zI_pE, zR_pI, zT_pI, zL_pI, zn_pI, zE_pI, zI_pI, m1]
theorem w_fails {vs : Nat → List Prg} {now : Int32} {TX : List (Nat × Nat × Nat × Prg)} {B K s : Nat} {h : Hp} {q : Shd} {C : List Rec} (hs : s < 4) (R : RS vs now TX B K s h q C) (hl : shL q ≠ -1) (hc : calm q) {n : Nat} (hn : n < shN q) (h0 : wkP (flW (shF q n)) = 0) (hk : flK (shF q n) ≠ 0) :
    ∃ h1, f_X11_fails 616 (nI (16 * s + n)) h = some (if (shFail now q n).1 = true then 1 else 0, h1) ∧ actR vs now TX B K s h q C (shFail now q n).2 h1 := by
  have kl : KLok vs now TX B K s 5 (f_losesD 30) := losesD_ok hs 5 30 (by omega)
  have hu := R.w
  obtain ⟨G, ⟨hI, hY⟩, I, EE, sd, mn, fw, ob⟩ := id R
  obtain ⟨H, eN, enow, T, ⟨hB, hK⟩, hv⟩ := id G
  have hQ := q_bound hI hY hK
  have hN16 := N16 hI
  have hn16 : n < 16 := by omega
  obtain ⟨t1, kk, k1, k2, k3⟩ := hI.task hn h0
  obtain ⟨l1, l2, l3, l4, l5⟩ := hI.len hn
  obtain ⟨ev, rf, tk⟩ := fw n hn
  have e64 : zE h 664 (16 * s + n) = nI kk := by rw [(tk.2 h0).1.2]; exact k3
  have nw : (nI (16 * s + n)).toNatClampNeg = 16 * s + n := zi_nat (by omega)
  have gw : ¬ nI (16 * s + n) < 0 := zi_neg (by omega)
  have lw : ¬ 64 ≤ 16 * s + n := by omega
  have d16 := zi_16d hs hn16
  have m16 := zi_16m hs hn16
  have ek : (flT (shF q n)).2.2.1 + 1 = nI (kk + 1) := by rw [k3]; exact zi_add kk 1
  have q5 : nI (kk + 1) = (5 : Int32) ↔ kk + 1 = 5 := zi_eq (b := 5) (by omega) (by omega)
  have q5l : (5 : Int32) ≤ nI (kk + 1) ↔ 5 ≤ kk + 1 := zi_le (a := 5) (by omega) (by omega)
  by_cases c5 : kk + 1 = 5
  · have d5 := eq_true (q5.mpr c5)
    have eF : shFail now q n = shBring now q n 3 (-1) 0 0 := by
      unfold shFail
      simp only []
      rw [if_pos (by rw [ek]; exact q5l.mpr (by omega))]
    have hp := h0
    rw [l5] at hp
    obtain ⟨h1, e1, A⟩ := w_comes hs R hl hc hn (k := 3) (a := -1) (b := 0) (o := 0) ⟨by omega, by show 3 < 13; decide, by show 3 ≠ 0; decide, Or.inr (Or.inr (Or.inr (Or.inl ⟨hp, Or.inr rfl⟩)))⟩
    have e1 : f_X11_comes 616 (nI (16 * s + n)) 3 (-1) 0 0 h = some (if (shBring now q n 3 (-1) 0 0).1 = true then 1 else 0, h1) := e1
    rw [eF]
    refine ⟨h1, ?_, A⟩
    cases hb : (shBring now q n 3 (-1) 0 0).1 with
    | false =>
      rw [hb, if_neg (fun z => Bool.noConfusion z)] at e1
      rw [if_neg (fun z => Bool.noConfusion z)]
      simp only [f_X11_fails, o10, o00, bh, isO, inR, ck_true, bind_some9, Nat.reduceLeDiff, Nat.reduceEqDiff, and_self, and_true, true_and, false_and, and_false, not_false_eq_true, not_true_eq_false, or_self, or_false, false_or, if_true, if_false, reduceIte, RF_o H, RF_1252 H, RO_660 H, RL_660 H, RF_1253 H, RO_661 H, RL_661 H, RF_1256 H, RO_664 H, RL_664 H, zR_pE, zT_pE, zL_pE, zn_pE, zE_pE, zI_pE, zR_pI, zT_pI, zL_pI, zn_pI, zE_pI, zI_pI, nw, gw, lw, e64, zi_one, d5, e1, iB0]
    | true =>
      rw [hb, if_pos rfl] at e1
      rw [if_pos rfl]
      simp only [f_X11_fails, o10, o00, bh, isO, inR, ck_true, bind_some9, Nat.reduceLeDiff, Nat.reduceEqDiff, and_self, and_true, true_and, false_and, and_false, not_false_eq_true, not_true_eq_false, or_self, or_false, false_or, if_true, if_false, reduceIte, RF_o H, RF_1252 H, RO_660 H, RL_660 H, RF_1253 H, RO_661 H, RL_661 H, RF_1256 H, RO_664 H, RL_664 H, zR_pE, zT_pE, zL_pE, zn_pE, zE_pE, zI_pE, zR_pI, zT_pI, zL_pI, zn_pI, zE_pI, zI_pI, nw, gw, lw, e64, zi_one, d5, e1, iB1]
  · have d5 := eq_false (fun z => c5 (q5.mp z))
    generalize hsi : now + (1 <<< (((flT (shF q n)).2.2.1 + 1 - 1) &&& 31)) = since
    have hsi2 : now + (1 <<< ((nI (kk + 1) - 1) &&& 31)) = since := by rw [← hsi, ek]
    have eF : shFail now q n = if (shCommit q 15 n ((flT (shF q n)).2.2.1 + 1) since 0).1 = false then (false, (shCommit q 15 n ((flT (shF q n)).2.2.1 + 1) since 0).2) else (true, shSetF (shCommit q 15 n ((flT (shF q n)).2.2.1 + 1) since 0).2 n (flP (shF (shCommit q 15 n ((flT (shF q n)).2.2.1 + 1) since 0).2 n), flE (shF (shCommit q 15 n ((flT (shF q n)).2.2.1 + 1) since 0).2 n), flW (shF (shCommit q 15 n ((flT (shF q n)).2.2.1 + 1) since 0).2 n), tkReady (flT (shF (shCommit q 15 n ((flT (shF q n)).2.2.1 + 1) since 0).2 n)) ((flT (shF q n)).2.2.1 + 1) since)) := by
      unfold shFail
      simp only []
      rw [if_neg (fun z => by rw [ek] at z; have := q5l.mp z; omega), hsi]
    rw [ek] at eF
    obtain ⟨E, fI, fG, fb, ff⟩ := shFail_I now hI hl hn h0 hk
    obtain ⟨h1, I1, f1, en1, rc1, alt⟩ := w_does (KL := f_losesD 30) H hs eN (by omega) sd hI hl (by omega) 15 n (nI (kk + 1)) since 0
    have f1p := f1.mono (dwS_fp s (B + shQ q))
    have G1 : RG vs now TX B K h1 (B + shQ q + 1) := G.on f1p en1
    have H1 := G1.1
    have fw1 : fwAt h1 (B + shQ q + 1) s EE (shN q) (shF q) := fun x hx => by
      obtain ⟨y1, y2, y3⟩ := (fw.on hN16 f1 dwS_rec (fun a j g _ => dwS_row (by omega)) (fun a j g => dwS_row (by omega))) x hx
      exact ⟨y1.more (Nat.le_succ _), y2, y3⟩
    have mn1 : mnAt h1 s (shN q) := mn.on f1 (dwS_row (by omega)) (fun x _ => dwS_row (by omega))
    have ob1 : obAt h1 s (shO q) := ob.on f1 (dwS_row (by omega)) (fun a k g _ => dwS_row (by omega))
    rcases alt with ⟨ct, ed, sd1, l, hlZ, hlL, -, -⟩ | ⟨cf, D1, ed, sd1, ecm⟩
    · rw [if_neg (by rw [ct]; decide)] at eF
      obtain ⟨lw9, w9, -⟩ := hI.w hl
      have el9 : lw9 = l := (zi_eq (by have := w9.1; have := hI.1.1; omega) (by have := hI.1.1; omega)).mp (w9.2.1.symm.trans hlL)
      obtain ⟨⟨⟨⟨u1, u2, u3, u4, u5⟩, -⟩, -⟩, cut2, -⟩ := shCommit_cut hlL hlZ hI.1.1 (by rw [← el9]; exact w9.2.2.1) 15 n (nI (kk + 1)) since 0
      obtain ⟨cL, cF⟩ := cut2 ct
      rw [cF] at eF
      generalize (shCommit q 15 n (nI (kk + 1)) since 0).2 = c at *
      have fE : (shFail now q n).1 = true := by rw [eF]
      have fL : shL (shFail now q n).2 ≠ -1 := by rw [eF]; show shL c ≠ -1; rw [cL]; exact hl
      have qE : shQ (shFail now q n).2 = shQ q + 1 := by rw [eF]; exact u5
      rw [fE, if_pos rfl]
      have f2 : frx (tsS (16 * s + n)) h1 (pE (pE (pE h1 664 (16 * s + n) (nI (kk + 1))) 661 (16 * s + n) since) 660 (16 * s + n) 1) := ((frx_pE ⟨by omega, rfl⟩).trans (frx_pE ⟨by omega, rfl⟩)).trans (frx_pE ⟨by omega, rfl⟩)
      have f2p : frx (fpS s (B + shQ q)) h1 (pE (pE (pE h1 664 (16 * s + n) (nI (kk + 1))) 661 (16 * s + n) since) 660 (16 * s + n) 1) := f2.mono (fun a j z => rwS_fp hn16 _ a j (Or.inr z))
      refine ⟨_, ?_, E, f1p.trans f2p, fG.1, ?_⟩
      · simp only [f_X11_fails, o10, o00, bh, isO, inR, ck_true, bind_some9, Nat.reduceLeDiff, Nat.reduceEqDiff, and_self, and_true, true_and, false_and, and_false, not_false_eq_true, not_true_eq_false, or_self, or_false, false_or, if_true, if_false, reduceIte, RF_o H, RF_1252 H, RO_660 H, RL_660 H, RF_1253 H, RO_661 H, RL_661 H, RF_1256 H, RO_664 H, RL_664 H, zR_pE, zT_pE, zL_pE, zn_pE, zE_pE, zI_pE, zR_pI, zT_pI, zL_pI, zn_pI, zE_pI, zI_pI, RF_o H1, RF_1256 H1, RO_664 H1, RL_664 H1, RF_1253 H1, RO_661 H1, RL_661 H1, RF_1252 H1, RO_660 H1, RL_660 H1, nw, gw, lw, e64, zi_one, d5, enow, hsi2, d16, m16]
        have ed : f_X11_does (f_losesD 30) 616 (nI s) (nI n) 15 (nI (kk + 1)) since 0 h = some (1, h1) := ed
        simp only [ed, bind_some9, o10, if_false, RF_o H1, RF_1256 H1, RO_664 H1, RL_664 H1, RF_1253 H1, RO_661 H1, RL_661 H1, RF_1252 H1, RO_660 H1, RL_660 H1, ck_true, isO, inR, nw, gw, lw, and_self, or_self, not_false_eq_true, zR_pE, zT_pE, zL_pE, zn_pE, Nat.reduceLeDiff]
      · rw [stl_off vs now (Or.inl fL)]
        refine ⟨⟨by rw [qE]; exact G1.on f2p (by rw [f2.2.2.1 1224 (by unfold tsS; omega)]; exact en1), ⟨fI, fG.y hY⟩, I1, EE, ?_, ?_, ?_, ?_⟩, fun _ => calm_br hc fb fL⟩
        · rw [qE, eF]
          refine (sdAt_same (u := shSetF c n (flP (shF q n), flE (shF q n), flW (shF q n), tkReady (flT (shF q n)) (nI (kk + 1)) since)) sd1 rfl rfl rfl rfl).on f2 (fun a i _ => by unfold tsS; omega) (fun a j z => by obtain ⟨r, -, z⟩ := z; unfold dkS at z; unfold tsS; omega) (fun a g => by unfold tsS; omega)
        · rw [eF]
          show mnAt _ s (shN c)
          rw [u3]
          refine ⟨⟨by rw [f2.2.2.2 647 _ (by unfold tsS; omega)]; exact mn1.1.1, hN16⟩, fun x g1 g2 => by rw [f2.2.2.2 660 _ (by unfold tsS; omega)]; exact mn1.2 x g1 g2⟩
        · rw [eF, show shQ (true, shSetF c n (flP (shF q n), flE (shF q n), flW (shF q n), tkReady (flT (shF q n)) (nI (kk + 1)) since)).2 = shQ q + 1 from u5]
          show fwAt _ _ s EE (shN c) (upf (shF c) n (flP (shF q n), flE (shF q n), flW (shF q n), tkReady (flT (shF q n)) (nI (kk + 1)) since))
          rw [u3, cF]
          have eEE : EE = upf EE n (EE n) := (upf_same EE n).symm
          rw [eEE]
          refine fw_row (n := n) (fun x hx _ => fw1 x hx) f2 (fun a i _ => by unfold tsS; omega) (fun x hx hxn a g => by unfold tsS; omega) (fun x hx hxn j g => by unfold tsS; omega) (fun x hx hxn j g => by unfold tsS; omega) (fun _ => ?_)
          obtain ⟨y1, y2, y3⟩ := fw1 n hn
          refine ⟨y1.on f2 (fun a i _ => by unfold tsS; omega) (fun a j z => by unfold evS at z; unfold tsS; omega), y2.on f2 (fun a g => by unfold tsS; omega) (fun v hv => by unfold tsS; omega), ?_⟩
          unfold tkAt
          show _ = (if wkP (flW (shF q n)) = 0 then (if (0 : Int32) = 0 then 1 else 2) else 0) ∧ (wkP (flW (shF q n)) = 0 → (_ = since ∧ _ = nI (kk + 1)) ∧ ((0 : Int32) ≠ 0 → _))
          rw [if_pos h0, if_pos rfl]
          exact ⟨by rw [zE_pE, if_pos ⟨rfl, rfl⟩], fun _ => ⟨⟨by rw [zE_pE, if_neg (by omega), zE_pE, if_pos ⟨rfl, rfl⟩], by rw [zE_pE, if_neg (by omega), zE_pE, if_neg (by omega), zE_pE, if_pos ⟨rfl, rfl⟩]⟩, fun z => absurd rfl z⟩⟩
        · rw [eF]
          show obAt _ s (shO c)
          rw [u4]
          exact ob1.on f2 (by unfold tsS; omega) (fun a k g _ => by unfold tsS; omega)
    · rw [if_pos cf, ecm] at eF
      have fE : (shFail now q n).1 = false := by rw [eF]
      have EC := (ff fE).2
      rw [fE, if_neg (fun z => Bool.noConfusion z)]
      rw [EC] at fI fG
      have fU := fb.2.2 (ff fE).1
      rw [eF] at fI fG fU
      obtain ⟨h2, E2, b1, b2, b3, b4, b5⟩ := kl h1 (shSetD (shTried q) D1) C ⟨G1, ⟨fI, fG.y hY⟩, by
        have fU : upsN (shZ q) D1 + 1 ≤ upsN (shZ q) (shD q) := fU
        show upsN (shZ q) D1 ≤ 5
        omega, I1, EE, sd1, mn1, fw1, ob1⟩
      have b2 : frx (fpS s (B + (shQ q + 1))) h1 h2 := b2
      rw [eF]
      refine ⟨h2, ?_, E2, f1p.trans (b2.mono (fpS_le (by omega))), b4, b3, b5⟩
      have b1 : f_losesD 30 616 (nI s) h1 = some h2 := b1
      rw [b1] at ed
      have ed : f_X11_does (f_losesD 30) 616 (nI s) (nI n) 15 (nI (kk + 1)) since 0 h = some (0, h2) := ed
      simp only [f_X11_fails, o10, o00, bh, isO, inR, ck_true, bind_some9, Nat.reduceLeDiff, Nat.reduceEqDiff, and_self, and_true, true_and, false_and, and_false, not_false_eq_true, not_true_eq_false, or_self, or_false, false_or, if_true, if_false, reduceIte, RF_o H, RF_1252 H, RO_660 H, RL_660 H, RF_1253 H, RO_661 H, RL_661 H, RF_1256 H, RO_664 H, RL_664 H, zR_pE, zT_pE, zL_pE, zn_pE, zE_pE, zI_pE, zR_pI, zT_pI, zL_pI, zn_pI, zE_pI, zI_pI, nw, gw, lw, e64, zi_one, d5, enow, hsi2, d16, m16]
      simp only [ed, bind_some9, if_true]
/-! A ROW BEGINS, IN THE REFERENCE -/
/-- the last text of each program -/
def ltAt (h : Hp) (vs : Nat → List Prg) (TX : List (Nat × Nat × Nat × Prg)) : Prop := ∀ p, p < 8 → (vs p = [] → zE h 622 p = -1) ∧ (vs p ≠ [] → ∃ (t S : Nat) (P : Prg), zE h 622 p = nI t ∧ TX[t]? = some (p, (vs p).length - 1, S, P))
theorem w_numberOf {h : Hp} {s n : Nat} (hs : s < 4) (hn : n < 16) : f_X11_numberOf (nI (16 * s + n)) h = some (nI (s + 4 * n), h) := by
  have d16 := zi_16d hs hn
  have m16 := zi_16m hs hn
  have e : nI s + (4 : Int32) * nI n = nI (s + 4 * n) := by rw [show (4 : Int32) = nI 4 from rfl, zi_mul, zi_add]
  simp only [f_X11_numberOf, d16, m16, e]
theorem w_begins {vs : Nat → List Prg} {now : Int32} {TX : List (Nat × Nat × Nat × Prg)} {B K s : Nat} {h : Hp} {q : Shd} {C : List Rec} (hs : s < 4) (hvs : vsOK vs) (R : RS vs now TX B K s h q C) (hl : shL q ≠ -1) (hc : calm q) (hN : shN q < 16) {p t : Nat} (hp : p < 8) (hne : vs p ≠ []) {S : Nat} {Pt : Prg} (ht : TX[t]? = some (p, (vs p).length - 1, S, Pt)) (x o : Int32) :
    ∃ h1, f_X11_begins 616 (nI s) (nI t) x o h = some (if (shBegin vs now q p x o).1 = true then nI (s + 4 * shN q) else -1, h1) ∧ actR vs now TX B K s h q C (shBegin vs now q p x o).2 h1 := by
  have kl : KLok vs now TX B K s 5 (f_losesD 30) := losesD_ok hs 5 30 (by omega)
  have hu := R.w
  obtain ⟨G, ⟨hI, hY⟩, I, EE, sd, mn, fw, ob⟩ := id R
  obtain ⟨H, eN, enow, T, ⟨hB, hK⟩, hv⟩ := id G
  have hQ := q_bound hI hY hK
  have hO := oc_lt hI
  have h5 := hI.1.1
  obtain ⟨P, hP, hPm, hPn⟩ := bgA_ok hvs hp hne
  have htl := (List.getElem?_eq_some_iff.mp ht).1
  have hT4 := T.1
  obtain ⟨⟨x1, x2, -, -⟩, ⟨-, x5, -⟩, -⟩ := T.2.1 t _ ht
  have x1 : zE h 618 t = nI p := x1
  have x2 : zE h 619 t = nI ((vs p).length - 1) := x2
  have nx : (nI s).toNatClampNeg = s := zi_nat (by omega)
  have gx : ¬ nI s < 0 := zi_neg (by omega)
  have lx : ¬ 4 ≤ s := by omega
  have nt : (nI t).toNatClampNeg = t := zi_nat (by omega)
  have gt : ¬ nI t < 0 := zi_neg (by omega)
  have lt : ¬ 4100 ≤ t := by omega
  have e47 : zE h 647 s = nI (shN q) := mn.1.1
  have ea : nI p + (8 : Int32) * nI ((vs p).length - 1) = bgA vs p := by
    rw [show (8 : Int32) = nI 8 from rfl, zi_mul, zi_add]; rfl
  generalize hn9 : shN q = n at *
  have nw : (nI (16 * s + n)).toNatClampNeg = 16 * s + n := zi_nat (by omega)
  have gw : ¬ nI (16 * s + n) < 0 := zi_neg (by omega)
  have lw : ¬ 64 ≤ 16 * s + n := by omega
  have eb0 := shBegin_eq vs now q p x o
  rw [hn9] at eb0
  obtain ⟨h1, I1, f1, en1, rc1, alt⟩ := w_does (KL := f_losesD 30) H hs eN (by omega) sd hI hl (by omega) 0 n (bgA vs p) x o
  have f1p := f1.mono (dwS_fp s (B + shQ q))
  have G1 : RG vs now TX B K h1 (B + shQ q + 1) := G.on f1p en1
  have H1 := G1.1
  have fw1 : fwAt h1 (B + shQ q + 1) s EE n (shF q) := fun y hy => by
    obtain ⟨y1, y2, y3⟩ := (fw.on (by omega) f1 dwS_rec (fun a j g _ => dwS_row (by omega)) (fun a j g => dwS_row (by omega))) y hy
    exact ⟨y1.more (Nat.le_succ _), y2, y3⟩
  have mn1 : mnAt h1 s n := mn.on f1 (dwS_row (by omega)) (fun y _ => dwS_row (by omega))
  have ob1 : obAt h1 s (shO q) := ob.on f1 (dwS_row (by omega)) (fun a k g _ => dwS_row (by omega))
  rcases alt with ⟨ct, ed, sd1, l, hlZ, hlL, hI1, hIl⟩ | ⟨cf, D1, ed, sd1, ecm⟩
  · rw [if_neg (by rw [ct]; decide)] at eb0
    rw [eb0]
    show ∃ h1, _ = some ((if true = true then nI (s + 4 * n) else -1 : Int32), h1) ∧ _
    rw [if_pos rfl]
    obtain ⟨lw9, w9, -⟩ := hI.w hl
    have el9 : lw9 = l := (zi_eq (by have := w9.1; omega) (by omega)).mp (w9.2.1.symm.trans hlL)
    obtain ⟨⟨⟨⟨u1, u2, u3, u4, u5⟩, -⟩, -⟩, cut2, -⟩ := shCommit_cut hlL hlZ hI.1.1 (by rw [← el9]; exact w9.2.2.1) 0 n (bgA vs p) x o
    obtain ⟨cL, cF⟩ := cut2 ct
    obtain ⟨bI, bG, bL, bN, bo⟩ := born_I hI hl (by omega) hP hPn now (by rw [hn9]; exact ct)
    rw [hn9] at bI bG bL bN bo
    have eBn : shBorn vs now (shCommit q 0 n (bgA vs p) x o).2 n (bgA vs p) x o = (shZ (shCommit q 0 n (bgA vs p) x o).2, shL (shCommit q 0 n (bgA vs p) x o).2, shT (shCommit q 0 n (bgA vs p) x o).2, shD (shCommit q 0 n (bgA vs p) x o).2, n + 1, upf (shF q) n (flRun (flOpen (shF q n) P (bgA vs p) x o) now).2, shO (shCommit q 0 n (bgA vs p) x o).2, shQ (shCommit q 0 n (bgA vs p) x o).2) := by
      unfold shBorn
      rw [shOpen_eq hP, cF]
      generalize (shCommit q 0 n (bgA vs p) x o).2 = c
      show (shZ c, shL c, shT c, shD c, n + 1, upf (upf (shF q) n (flOpen (shF q n) P (bgA vs p) x o)) n (flRun (upf (shF q) n (flOpen (shF q n) P (bgA vs p) x o) n) now).2, shO c, shQ c) = _
      rw [upf_upf, show upf (shF q) n (flOpen (shF q n) P (bgA vs p) x o) n = _ from if_pos rfl]
    -- places
    obtain ⟨⟨-, -, dk3, -⟩, ⟨dk5, dk6⟩, dk7, -⟩ := sd1.2.2.1 l (by omega)
    have len1 : (I1 l).length = C.length + 1 := by rw [hI1, List.length_append, hIl]; rfl
    have hCl : C.length ≤ shQ q := by rw [← hIl]; exact sd_len sd (fun x hx => (hI.2.2.1.2.1 x hx).1) l (by omega)
    have w39 : zE h1 639 (5 * s + l) = nI (C.length + 1) := by rw [dk3, ← dk5, len1]
    have w38 : zE h1 638 (8192 * (5 * s + l) + C.length) = nI (B + shQ q) := dk7 C.length _ (by rw [hI1, ← hIl, List.getElem?_append_right (Nat.le_refl _), Nat.sub_self]; rfl)
    have w45 : zE h1 645 s = nI l := by
      rw [sd1.1.2.1]
      show shL (shCommit q 0 n (bgA vs p) x o).2 = _
      rw [cL, hlL]
    -- the row
    have f2 : frx (fun a j => (a = 647 ∧ j = s) ∨ (a = 649 ∨ a = 660) ∧ j = 16 * s + n) h1 (pE (pE (pE h1 647 s (nI (n + 1))) 649 (16 * s + n) 0) 660 (16 * s + n) 0) := ((frx_pE (Or.inl ⟨rfl, rfl⟩)).trans (frx_pE (Or.inr ⟨by omega, rfl⟩))).trans (frx_pE (Or.inr ⟨by omega, rfl⟩))
    have z49 : zE (pE (pE (pE h1 647 s (nI (n + 1))) 649 (16 * s + n) 0) 660 (16 * s + n) 0) 649 (16 * s + n) = 0 := by rw [zE_pE, if_neg (by omega), zE_pE, if_pos ⟨rfl, rfl⟩]
    have z60 : zE (pE (pE (pE h1 647 s (nI (n + 1))) 649 (16 * s + n) 0) 660 (16 * s + n) 0) 660 (16 * s + n) = 0 := by rw [zE_pE, if_pos ⟨rfl, rfl⟩]
    have z47 : zE (pE (pE (pE h1 647 s (nI (n + 1))) 649 (16 * s + n) 0) 660 (16 * s + n) 0) 647 s = nI (n + 1) := by rw [zE_pE, if_neg (by omega), zE_pE, if_neg (by omega), zE_pE, if_pos ⟨rfl, rfl⟩]
    generalize hh2 : pE (pE (pE h1 647 s (nI (n + 1))) 649 (16 * s + n) 0) 660 (16 * s + n) 0 = h2 at *
    have H2 := H1.on f2
    have f2p : frx (fpS s (B + shQ q)) h1 h2 := f2.mono (fun a j z => z.elim (fun z => Or.inl (Or.inr (Or.inr (Or.inl ⟨by omega, z.2⟩)))) (fun z => Or.inl (Or.inr (Or.inr (Or.inr (Or.inr (Or.inl ⟨by omega, by omega⟩)))))))
    have ev2 : evsAt h2 (B + shQ q + 1) (16 * s + n) [] [] := ⟨by rw [z49]; rfl, ⟨rfl, Nat.zero_le _⟩, fun k i hk => (by rw [List.getElem?_nil] at hk; cases hk), fun k i f hk => (by rw [List.getElem?_nil] at hk; cases hk)⟩
    obtain ⟨h3, ek, f3, ev3, ob3⟩ := w_keep (e := ((0, bgA vs p, x, o) : Evt)) (t := shT q) (i := B + shQ q) (O := shO q) H2 hs (by omega) (by omega) ev2 (by show 0 < 60; omega) (fun _ => rfl) (by show 0 < 16; omega) ⟨by omega, rc1.on f2 (fun a => by omega)⟩ (ob1.on f2 (by omega) (fun a k g _ => by omega)) (by omega) none (fun p hp => (by cases hp))
    have ek : f_X11_keep 616 (nI (16 * s + n)) (nI (B + shQ q)) (-1) h2 = some h3 := ek
    have f3 : frx (kpS (16 * s + n) s 0 (shO q).length) h2 h3 := f3
    have ev3 : evsAt h3 (B + shQ q + 1) (16 * s + n) [B + shQ q] [(0, bgA vs p, x, o)] := ev3
    rw [if_neg (show ¬ bkMsg [] 0 = true from fun z => Bool.noConfusion z)] at ob3
    have f3p : frx (fpS s (B + shQ q)) h2 h3 := f3.mono (fun a j z => Or.inl (kpS_sh (by omega) (by omega) (by omega) a j z))
    have en3 : zI h3 1224 616 = nI (B + shQ q + 1) := by rw [f3.2.2.1 1224 (by unfold kpS; omega), f2.2.2.1 1224 (by omega)]; exact en1
    have G3 := G1.on (f2p.trans f3p) en3
    obtain ⟨H3, -, now3, T3, -⟩ := id G3
    obtain ⟨h4, ew, f4, rf4, rw4⟩ := w_goThrough (P := P) (now := now) H3 T3 hv (by omega : 16 * s + n < 64) (by omega) ev3 (hsOK_one P _ rfl) hP hPn now3
    have H4 := H3.on f4
    have f4p : frx (fpS s (B + shQ q)) h3 h4 := f4.mono (gtS_sh (by omega) _)
    have en4 : zI h4 1224 616 = nI (B + shQ q + 1) := by rw [f4.2.2.1 1224 (by unfold gtS; omega)]; exact en3
    have f14 : frx (fun a j => ((a = 647 ∧ j = s) ∨ (a = 649 ∨ a = 660) ∧ j = 16 * s + n) ∨ kpS (16 * s + n) s 0 (shO q).length a j ∨ gtS (16 * s + n) a j) h1 h4 := ((f2.mono (fun a j z => Or.inl z)).trans (f3.mono (fun a j z => Or.inr (Or.inl z)))).trans (f4.mono (fun a j z => Or.inr (Or.inr z)))
    have fall := f1p.trans ((f2p.trans f3p).trans f4p)
    have eZ : (flRun (flOpen (shF q n) P (bgA vs p) x o) now).2 = (P, [(0, bgA vs p, x, o)], rpR P [(0, bgA vs p, x, o)], tkFree (flT (shF q n))) := by
      rw [flRun_A (flOpen_A hP (shF q n))]; rfl
    have ph0 : wkP (rpR P [(0, bgA vs p, x, o)]) ≠ 0 := fun z => by
      obtain ⟨y, hy, hy1⟩ := phase_hasW (P := P) [(0, bgA vs p, x, o)] (by simp) (Or.inr z)
      rw [List.mem_singleton] at hy
      rw [hy] at hy1
      cases hy1
    have qB : shQ (shBorn vs now (shCommit q 0 n (bgA vs p) x o).2 n (bgA vs p) x o) = shQ q + 1 := by rw [eBn]; exact u5
    have R4 : RS vs now TX B K s h4 (shBorn vs now (shCommit q 0 n (bgA vs p) x o).2 n (bgA vs p) x o) (C ++ [(n, 0, shT q, bgA vs p, x, o)]) := by
      refine ⟨by rw [qB]; exact G.on fall en4, ⟨bI, bG.y hY⟩, I1, upf EE n [B + shQ q], ?_⟩
      rw [qB, eBn]
      generalize (shCommit q 0 n (bgA vs p) x o).2 = c at *
      refine ⟨?_, ?_, ?_, ?_⟩
      · refine (sdAt_same (u := (shZ c, shL c, shT c, shD c, n + 1, upf (shF q) n (flRun (flOpen (shF q n) P (bgA vs p) x o) now).2, shO c, shQ c)) sd1 rfl rfl rfl rfl).on f14 (fun a i _ => ?_) (fun a j z => ?_) (fun a g => ?_)
        · by_cases cc : a < 633 ∨ 637 < a
          · exact Or.inr cc
          · left; unfold kpS gtS; omega
        · obtain ⟨r, -, z⟩ := z
          unfold dkS at z
          unfold kpS gtS
          omega
        · unfold kpS gtS; omega
      · show mnAt h4 s (n + 1)
        refine ⟨⟨?_, by omega⟩, fun y g1 g2 => ?_⟩
        · rw [f4.2.2.2 647 _ (by unfold gtS; omega), f3.2.2.2 647 _ (by unfold kpS; omega)]; exact z47
        · rw [f14.2.2.2 660 _ (by unfold kpS gtS; omega)]; exact mn1.2 y (by omega) g2
      · show fwAt h4 _ s (upf EE n [B + shQ q]) (n + 1) (upf (shF q) n (flRun (flOpen (shF q n) P (bgA vs p) x o) now).2)
        refine fw_row (n := n) (fun y hy hyn => fw1 y (by omega)) f14 (fun a i _ => ?_) (fun y hy hyn a g => by unfold kpS gtS; omega) (fun y hy hyn j g => by unfold kpS gtS; omega) (fun y hy hyn j g => by unfold kpS gtS; omega) (fun _ => ?_)
        · by_cases cc : a < 633 ∨ 637 < a
          · exact Or.inr cc
          · left; unfold kpS gtS; omega
        · rw [eZ]
          refine ⟨ev3.on f4 (fun a i _ => gtS_rec _ a i) (gtS_ev _), rf4, ?_, fun z => absurd z ph0⟩
          show zE h4 660 (16 * s + n) = (if wkP (rpR P [(0, bgA vs p, x, o)]) = 0 then _ else 0)
          rw [if_neg ph0, f4.2.2.2 660 _ (by unfold gtS; omega), f3.2.2.2 660 _ (by unfold kpS; omega)]; exact z60
      · show obAt h4 s (shO c)
        rw [u4]
        exact ob3.on f4 (by unfold gtS; omega) (fun a k g _ => by unfold gtS; omega)
    have eFn : shF (shBorn vs now (shCommit q 0 n (bgA vs p) x o).2 n (bgA vs p) x o) n = (P, [(0, bgA vs p, x, o)], rpR P [(0, bgA vs p, x, o)], tkFree (flT (shF q n))) := by
      rw [eBn, ← eZ]; exact if_pos rfl
    have bz := bG.2.2.1
    have bu := bG.2.2.2.2.1
    have hl4 : shL (shBorn vs now (shCommit q 0 n (bgA vs p) x o).2 n (bgA vs p) x o) ≠ -1 := by rw [bL]; exact hl
    obtain ⟨r, h5, F, g1, g2, g3, g4⟩ := w_goesOn (n := n) hs kl R4 hl4 (by rw [bN]; omega) (by rw [bz]; omega) (by rw [eFn]; exact rw4)
    have hz := bI.2.1.2.2 n (by rw [← bI.2.1.1, bN]; omega)
    have eg : shGo now (shBorn vs now (shCommit q 0 n (bgA vs p) x o).2 n (bgA vs p) x o) n = shGoL now n 60 (flRun (shF (shBorn vs now (shCommit q 0 n (bgA vs p) x o).2 n (bgA vs p) x o) n) now).1 (shBorn vs now (shCommit q 0 n (bgA vs p) x o).2 n (bgA vs p) x o) := by
      unfold shGo
      rw [show (flRun (shF (shBorn vs now (shCommit q 0 n (bgA vs p) x o).2 n (bgA vs p) x o) n) now).2 = shF (shBorn vs now (shCommit q 0 n (bgA vs p) x o).2 n (bgA vs p) x o) n by rw [flRun_Zeq hz], setF_same]
    obtain ⟨E9, -, -, gN, gw9, -⟩ := shGo_I now bI hl4 (by rw [bN]; omega : n < _)
    rw [← eg]
    refine ⟨h5, ?_, F, fall.trans (g2.mono (fpS_le (by rw [qB]; omega))), (List.prefix_append _ _).trans g3, ?_⟩
    · have nl : (nI (5 * s + l)).toNatClampNeg = 5 * s + l := zi_nat (by omega)
      have gl : ¬ nI (5 * s + l) < 0 := zi_neg (by omega)
      have ll : ¬ 20 ≤ 5 * s + l := by omega
      have e8 : nI (8192 * (5 * s + l) + (C.length + 1)) - 1 = nI (8192 * (5 * s + l) + C.length) := zi_sub (b := 1) (by omega)
      have n8 : (nI (8192 * (5 * s + l) + C.length)).toNatClampNeg = 8192 * (5 * s + l) + C.length := zi_nat (by omega)
      have g8 : ¬ nI (8192 * (5 * s + l) + C.length) < 0 := zi_neg (by omega)
      have l8 : ¬ 163840 ≤ 8192 * (5 * s + l) + C.length := by omega
      have en' : f_X11_numberOf (nI (16 * s + n)) h5 = some (nI (s + 4 * n), h5) := w_numberOf hs (by omega)
      have m47 : zE h1 647 s = nI n := mn1.1.1
      have v45 : zE h2 645 s = nI l := by rw [f2.2.2.2 645 _ (by omega)]; exact w45
      have v39 : zE h2 639 (5 * s + l) = nI (C.length + 1) := by rw [f2.2.2.2 639 _ (by omega)]; exact w39
      have v38 : zE h2 638 (8192 * (5 * s + l) + C.length) = nI (B + shQ q) := by rw [f2.2.2.2 638 _ (by omega)]; exact w38
      have ed : f_X11_does (f_losesD 30) 616 (nI s) (nI n) 0 (bgA vs p) x o h = some (1, h1) := ed
      have g1 : f_X11_goesOn (f_losesD 30) 616 (nI (16 * s + n)) h4 = some (r, h5) := g1
      have H4 := R4.1.1
      have step1 : f_X11_begins 616 (nI s) (nI t) x o h = ck (isO h2 (zR h2 1237 616) 22) (ck (inR (nI s) (zL h2 (zR h2 1237 616))) (bh (((5 : Int32) * nI s) + zE h2 (zR h2 1237 616) (nI s).toNatClampNeg) (fun x23 => ck (isO h2 (zR h2 1231 616) 22) (ck (inR x23 (zL h2 (zR h2 1231 616))) (ck (isO h2 (zR h2 1230 616) 22) (ck (inR ((((8192 : Int32) * x23) + zE h2 (zR h2 1231 616) x23.toNatClampNeg) - 1) (zL h2 (zR h2 1230 616))) ((f_X11_keep 616 (nI (16 * s + n)) (zE h2 (zR h2 1230 616) ((((8192 : Int32) * x23) + zE h2 (zR h2 1231 616) x23.toNatClampNeg) - 1).toNatClampNeg) (-1) h2).bind (fun q28 => ck (isO q28 616 12) ((f_X11_goThrough 616 (nI (16 * s + n)) q28).bind (fun q29 => ck (isO q29 616 12) ((f_X11_goesOn (f_losesD 30) 616 (nI (16 * s + n)) q29).bind (fun q31 => (f_X11_numberOf (nI (16 * s + n)) q31.2).bind (fun q33 => some (q33.1, q33.2)))))))))))))) := by
        rw [← hh2]
        simp only [f_X11_begins, o10, o00, bh, isO, inR, ck_true, bind_some9, Nat.reduceLeDiff, Nat.reduceEqDiff, and_self, and_true, true_and, false_and, and_false, not_false_eq_true, not_true_eq_false, or_self, or_false, false_or, if_true, if_false, reduceIte, RF_o H, RF_1207 H, RO_618 H, RL_618 H, RF_1208 H, RO_619 H, RL_619 H, RF_1230 H, RO_638 H, RL_638 H, RF_1231 H, RO_639 H, RL_639 H, RF_1237 H, RO_645 H, RL_645 H, RF_1239 H, RO_647 H, RL_647 H, RF_1241 H, RO_649 H, RL_649 H, RF_1252 H, RO_660 H, RL_660 H, zR_pE, zT_pE, zL_pE, zn_pE, zE_pE, zI_pE, zR_pI, zT_pI, zL_pI, zn_pI, zE_pI, zI_pI, RF_o H1, RF_1239 H1, RO_647 H1, RL_647 H1, RF_1241 H1, RO_649 H1, RL_649 H1, RF_1252 H1, RO_660 H1, RL_660 H1, nx, gx, lx, e47, zi_16, nt, gt, lt, x1, x2, ea, ed, m47, zi_one, nw, gw, lw]
      rw [step1]
      have H := H2
      simp only [bh, isO, inR, ck_true, bind_some9, and_self, or_self, not_false_eq_true, Nat.reduceLeDiff, RF_o H, RF_1237 H, RO_645 H, RL_645 H, RF_1231 H, RO_639 H, RL_639 H, RF_1230 H, RO_638 H, RL_638 H, RF_o H3, RF_o H4, nx, gx, lx, v45, zi_five, nl, gl, ll, v39, zi_big, e8, n8, g8, l8, v38, ek, ew, g1, en']
    · rcases g4 with ⟨z1, -, z3, -⟩ | ⟨z1, -, z3, z4⟩
      · rw [stl_off vs now (Or.inl z1)]
        refine ⟨z3, fun _ y hy => ?_⟩
        obtain ⟨-, d2, d3⟩ := gw9 z1
        have hNx := gN
        by_cases cy : y = n
        · rw [cy]; exact d2
        · rw [d3 y cy, bo y cy]; exact hc y (by omega)
      · exact ⟨z3, z4⟩
  · rw [if_pos cf, ecm] at eb0
    rw [eb0]
    show ∃ h1, _ = some ((if false = true then nI (s + 4 * n) else -1 : Int32), h1) ∧ _
    rw [if_neg (fun z => Bool.noConfusion z)]
    have hr : rcOK vs (lgB C) (n, 0, shT q, bgA vs p, x, o) := Or.inl ⟨rfl, by rw [← hn9]; exact hI.2.1.1, by rw [← hI.2.1.1]; omega, hPn, P, hP⟩
    obtain ⟨a1, a2, a3, a4, a5⟩ := fail_I hI hl 0 n (bgA vs p) x o hr cf
    rw [ecm] at a1 a2 a5
    obtain ⟨h2, E2, b1, b2, b3, b4, b5⟩ := kl h1 (shSetD (shTried q) D1) C ⟨G1, ⟨a1, Gr.y a2 hY⟩, by
      have a5 : upsN (shZ q) D1 + 1 ≤ upsN (shZ q) (shD q) := a5
      show upsN (shZ q) D1 ≤ 5
      omega, I1, EE, sd1, by show mnAt h1 s (shN q); rw [hn9]; exact mn1, by show fwAt h1 _ s EE (shN q) (shF q); rw [hn9]; exact fw1, ob1⟩
    have b2 : frx (fpS s (B + (shQ q + 1))) h1 h2 := b2
    refine ⟨h2, ?_, E2, f1p.trans (b2.mono (fpS_le (by omega))), b4, b3, b5⟩
    have b1 : f_losesD 30 616 (nI s) h1 = some h2 := b1
    rw [b1] at ed
    have ed : f_X11_does (f_losesD 30) 616 (nI s) (nI n) 0 (bgA vs p) x o h = some (0, h2) := ed
    simp only [f_X11_begins, o10, o00, bh, isO, inR, ck_true, bind_some9, Nat.reduceLeDiff, Nat.reduceEqDiff, and_self, and_true, true_and, false_and, and_false, not_false_eq_true, not_true_eq_false, or_self, or_false, false_or, if_true, if_false, reduceIte, RF_o H, RF_1207 H, RO_618 H, RL_618 H, RF_1208 H, RO_619 H, RL_619 H, RF_1230 H, RO_638 H, RL_638 H, RF_1231 H, RO_639 H, RL_639 H, RF_1237 H, RO_645 H, RL_645 H, RF_1239 H, RO_647 H, RL_647 H, RF_1241 H, RO_649 H, RL_649 H, RF_1252 H, RO_660 H, RL_660 H, zR_pE, zT_pE, zL_pE, zn_pE, zE_pE, zI_pE, zR_pI, zT_pI, zL_pI, zn_pI, zE_pI, zI_pI, nx, gx, lx, e47, zi_16, nt, gt, lt, x1, x2, ea, ed]
/-! THE FOUR SHARDS IN THE REFERENCE -/
def totQ (W : Wld) : Nat := shQ (W 0) + shQ (W 1) + shQ (W 2) + shQ (W 3)
/-- records of the others -/
def othQ (W : Wld) (s : Nat) : Nat := totQ W - shQ (W s)
theorem othQ_add (W : Wld) {s : Nat} (hs : s < 4) : othQ W s + shQ (W s) = totQ W := by
  unfold othQ totQ
  rcases (by omega : s = 0 ∨ s = 1 ∨ s = 2 ∨ s = 3) with h | h | h | h <;> rw [h] <;> omega
theorem othQ_up (W : Wld) {t : Nat} (ht : t < 4) (u : Shd) : othQ (upf W t u) t = othQ W t ∧ totQ (upf W t u) = othQ W t + shQ u := by
  have e : ∀ x, x ≠ t → upf W t u x = W x := fun x hx => if_neg hx
  have e1 : upf W t u t = u := if_pos rfl
  have key : totQ (upf W t u) = othQ W t + shQ u := by
    unfold othQ totQ
    rcases (by omega : t = 0 ∨ t = 1 ∨ t = 2 ∨ t = 3) with h | h | h | h
    · rw [h] at e1; rw [h] at e; rw [h, e1, e 1 (by decide), e 2 (by decide), e 3 (by decide)]; omega
    · rw [h] at e1; rw [h] at e; rw [h, e1, e 0 (by decide), e 2 (by decide), e 3 (by decide)]; omega
    · rw [h] at e1; rw [h] at e; rw [h, e1, e 0 (by decide), e 1 (by decide), e 3 (by decide)]; omega
    · rw [h] at e1; rw [h] at e; rw [h, e1, e 0 (by decide), e 1 (by decide), e 2 (by decide)]; omega
  refine ⟨?_, key⟩
  have := othQ_add (upf W t u) ht
  rw [e1] at this
  omega
def RW (vs : Nat → List Prg) (now : Int32) (TX : List (Nat × Nat × Nat × Prg)) (K : Nat) (h : Hp) (W : Wld) : Prop := ∀ s, s < 4 → ∃ C, RS vs now TX (othQ W s) K s h (W s) C ∧ (shL (W s) ≠ -1 → calm (W s)) ∧ (shL (W s) = -1 → shMost (W s) = false)
/-- where the shards lie -/
def wdF (N : Nat) (a j : Nat) : Prop := (∃ s, s < 4 ∧ shS s a j) ∨ shX N a j
theorem RW.S {vs : Nat → List Prg} {now : Int32} {TX : List (Nat × Nat × Nat × Prg)} {K : Nat} {h : Hp} {W : Wld} (R : RW vs now TX K h W) : WdS vs K W := fun s hs => by
  obtain ⟨C, R1, R2, R3⟩ := R s hs
  exact ⟨C, ⟨R1.2.1.1, R2, R3⟩, R1.2.1.2⟩
/-- an act on one shard leaves the others -/
theorem RW.act {vs : Nat → List Prg} {now : Int32} {TX : List (Nat × Nat × Nat × Prg)} {K : Nat} {h h1 : Hp} {W : Wld} {t : Nat} {u : Shd} {C : List Rec} (R : RW vs now TX K h W) (hK : K ≤ 1600) (ht : t < 4) (f : frx (fpS t (totQ W)) h h1) (ru : RS vs now TX (othQ W t) K t h1 u C) (cu : shL u ≠ -1 → calm u) (mu : shL u = -1 → shMost u = false) (hq : shQ (W t) ≤ shQ u) : RW vs now TX K h1 (upf W t u) := fun s hs => by
  obtain ⟨o1, o2⟩ := othQ_up W ht u
  by_cases c : s = t
  · rw [c, show upf W t u t = u from if_pos rfl, o1]
    exact ⟨C, ru, cu, mu⟩
  · rw [show upf W t u s = W s from if_neg c]
    obtain ⟨Cs, ⟨G, hI, I, EE, rs⟩, R2, R3⟩ := R s hs
    have os := othQ_add (upf W t u) hs
    rw [show upf W t u s = W s from if_neg c] at os
    have ot := othQ_add W ht
    have osW := othQ_add W hs
    have hqs := q_bound hI.1 hI.2 (by omega)
    have hqu := q_bound ru.2.1.1 ru.2.1.2 (by omega)
    have tb : totQ (upf W t u) ≤ 4 * 3920 := by
      have bnd : ∀ x, x < 4 → shQ (upf W t u x) ≤ 3920 := fun x hx => by
        by_cases cx : x = t
        · rw [show upf W t u x = u from if_pos cx]; exact hqu
        · rw [show upf W t u x = W x from if_neg cx]
          obtain ⟨Cx, ⟨-, hIx, -⟩, -⟩ := R x hx
          exact q_bound hIx.1 hIx.2 (by omega)
      have b0 := bnd 0 (by decide)
      have b1 := bnd 1 (by decide)
      have b2 := bnd 2 (by decide)
      have b3 := bnd 3 (by decide)
      unfold totQ
      omega
    refine ⟨Cs, ⟨?_, hI, I, EE, ?_⟩, R2, R3⟩
    · rw [os, o2]
      obtain ⟨g1, g2, g3, g4, ⟨g5, g6⟩, g7⟩ := ru.1
      exact ⟨g1, g2, g3, g4, ⟨by omega, g6⟩, g7⟩
    · rw [os]
      rw [osW] at rs
      refine (rs.on f (fun a i hi => fpS_rec a i hi) (shS_ne c (totQ W))).more (by rw [o2]; omega)
theorem RW.act2 {vs : Nat → List Prg} {now : Int32} {TX : List (Nat × Nat × Nat × Prg)} {K : Nat} {h h1 : Hp} {W : Wld} {t : Nat} {u : Shd} {C C1 : List Rec} (R : RW vs now TX K h W) (hK : K ≤ 1600) (ht : t < 4) (a : actR vs now TX (othQ W t) K t h (W t) C u h1) (hI : ShI vs u C1) (hc : shL u ≠ -1 → calm u) (hq : shQ (W t) ≤ shQ u) : RW vs now TX K h1 (upf W t (stl vs now u)) ∧ frx (fpS t (totQ W)) h h1 := by
  obtain ⟨E, a1, -, a3, a4⟩ := a
  have ot := othQ_add W ht
  rw [ot] at a1
  obtain ⟨F, sS, -⟩ := stl_I now hI hc
  exact ⟨R.act hK ht a1 a3 sS.2.1 sS.2.2 (Nat.le_trans hq (shQ_stl vs now u)), a1⟩
theorem fpS_wd {t N : Nat} (ht : t < 4) : ∀ a j, fpS t N a j → wdF N a j := fun a j z => z.elim (fun z => Or.inl ⟨t, ht, z⟩) Or.inr
theorem wdF_le {N M : Nat} (h : N ≤ M) : ∀ a j, wdF M a j → wdF N a j := fun a j z => by
  rcases z with z | z
  · exact Or.inl z
  · refine Or.inr ?_
    unfold shX at z ⊢
    omega
/-- reading a row of a shard -/
theorem RW.row {vs : Nat → List Prg} {now : Int32} {TX : List (Nat × Nat × Nat × Prg)} {K : Nat} {h : Hp} {W : Wld} (R : RW vs now TX K h W) {s n : Nat} (hs : s < 4) (hn : n < shN (W s)) : ∃ E, evsAt h (totQ W) (16 * s + n) E (flE (shF (W s) n)) ∧ rfF h (16 * s + n) (flE (shF (W s) n)) (flP (shF (W s) n)) ∧ tkAt h (16 * s + n) (shF (W s) n) ∧ 0 < (flE (shF (W s) n)).length ∧ flW (shF (W s) n) = rpR (flP (shF (W s) n)) (flE (shF (W s) n)) ∧ n < 16 := by
  obtain ⟨C, ⟨G, hI, I, EE, rs⟩, -⟩ := R s hs
  have os := othQ_add W hs
  obtain ⟨l1, -, -, -, l5⟩ := hI.1.len hn
  obtain ⟨y1, y2, y3⟩ := rs.2.2.1 n hn
  rw [os] at y1
  exact ⟨EE n, y1, y2, y3, l1, l5, by have := N16 hI.1; omega⟩
theorem RW.base {vs : Nat → List Prg} {now : Int32} {TX : List (Nat × Nat × Nat × Prg)} {K : Nat} {h : Hp} {W : Wld} (R : RW vs now TX K h W) (hK : K ≤ 1600) : RG vs now TX 0 K h (totQ W) ∧ totQ W ≤ 15680 ∧ ∀ s, s < 4 → zE h 645 s = shL (W s) ∧ zE h 647 s = nI (shN (W s)) ∧ shN (W s) ≤ 16 ∧ zE h 644 s = nI (shZ (W s)) ∧ zE h 646 s = nI (shT (W s)) ∧ shZ (W s) ≤ 5 := by
  obtain ⟨C, ⟨G, hI, I, EE, rs⟩, -⟩ := R 0 (by decide)
  have os := othQ_add W (show 0 < 4 by decide)
  rw [os] at G
  obtain ⟨g1, g2, g3, g4, ⟨g5, g6⟩, g7⟩ := G
  have tb : totQ W ≤ 15680 := by
    have bnd : ∀ x, x < 4 → shQ (W x) ≤ 3920 := fun x hx => by
      obtain ⟨Cx, ⟨-, hIx, -⟩, -⟩ := R x hx
      exact q_bound hIx.1 hIx.2 (by omega)
    have b0 := bnd 0 (by decide)
    have b1 := bnd 1 (by decide)
    have b2 := bnd 2 (by decide)
    have b3 := bnd 3 (by decide)
    unfold totQ
    omega
  refine ⟨⟨g1, g2, g3, g4, ⟨Nat.zero_le _, g6⟩, g7⟩, tb, fun s hs => ?_⟩
  obtain ⟨Cs, ⟨-, hIs, Is, EEs, rss⟩, -⟩ := R s hs
  exact ⟨rss.1.1.2.1, rss.2.1.1.1, rss.2.1.1.2, rss.1.1.1, rss.1.1.2.2, rss.1.2.1.2.1⟩
/-! LOOKING FOR ROWS AND EVENTS, IN THE REFERENCE -/
theorem w_withOrigin_go {h : Hp} (H : RF h) {N s M : Nat} {EE : Nat → List Nat} {F : Nat → List Evt} (hs : s < 4) (hN : N ≤ 60000) (hM : M ≤ 16) (em : zE h 647 s = nI M) (ev : ∀ n, n < M → evsAt h N (16 * s + n) (EE n) (F n) ∧ 0 < (F n).length) (o : Int32) : ∀ (m n fuel : Nat), n + m = M → m < fuel → f_X11_withOrigin_2 fuel 616 (nI s) o (nI n) h = some (match (List.range' n m).find? (fun x => decide (rpO (F x) = o)) with | none => -1 | some x => nI (16 * s + x), h)
  | m, n, 0, _, hf => absurd hf (Nat.not_lt_zero _)
  | 0, n, fuel + 1, hn, hf => by
    have c : nI M ≤ nI n := (zi_le (by omega) (by omega)).mpr (by omega)
    have nx : (nI s).toNatClampNeg = s := zi_nat (by omega)
    have gx : ¬ nI s < 0 := zi_neg (by omega)
    have lx : ¬ 4 ≤ s := by omega
    simp only [f_X11_withOrigin_2, o10, o00, bh, isO, inR, ck_true, bind_some9, Nat.reduceLeDiff, Nat.reduceEqDiff, and_self, and_true, true_and, false_and, and_false, not_false_eq_true, not_true_eq_false, or_self, or_false, false_or, if_true, if_false, reduceIte, RF_o H, RF_1239 H, RO_647 H, RL_647 H, zR_pE, zT_pE, zL_pE, zn_pE, zE_pE, zI_pE, zR_pI, zT_pI, zL_pI, zn_pI, zE_pI, zI_pI, nx, gx, lx, em, c]
    rfl
  | m + 1, n, fuel + 1, hn, hf => by
    have c : ¬ nI M ≤ nI n := zi_le0 (by omega) (by omega) (by omega)
    have nx : (nI s).toNatClampNeg = s := zi_nat (by omega)
    have gx : ¬ nI s < 0 := zi_neg (by omega)
    have lx : ¬ 4 ≤ s := by omega
    obtain ⟨e1, e2⟩ := ev n (by omega)
    have eo := w_origin H (by omega : 16 * s + n < 64) e1 e2 hN
    have ih := w_withOrigin_go H hs hN hM em ev o m (n + 1) fuel (by omega) (by omega)
    rw [List.range'_succ]
    by_cases co : rpO (F n) = o
    · rw [List.find?_cons_of_pos (p := fun x => decide (rpO (F x) = o)) (decide_eq_true co)]
      have d := eq_true co
      simp only [f_X11_withOrigin_2, o10, o00, bh, isO, inR, ck_true, bind_some9, Nat.reduceLeDiff, Nat.reduceEqDiff, and_self, and_true, true_and, false_and, and_false, not_false_eq_true, not_true_eq_false, or_self, or_false, false_or, if_true, if_false, reduceIte, RF_o H, RF_1239 H, RO_647 H, RL_647 H, zR_pE, zT_pE, zL_pE, zn_pE, zE_pE, zI_pE, zR_pI, zT_pI, zL_pI, zn_pI, zE_pI, zI_pI, nx, gx, lx, em, c, zi_16, eo, d]
    · rw [List.find?_cons_of_neg (p := fun x => decide (rpO (F x) = o)) (by show ¬ decide (rpO (F n) = o) = true; rw [decide_eq_false co]; exact fun z => Bool.noConfusion z), ← ih]
      have d := eq_false co
      simp only [f_X11_withOrigin_2, o10, o00, bh, isO, inR, ck_true, bind_some9, Nat.reduceLeDiff, Nat.reduceEqDiff, and_self, and_true, true_and, false_and, and_false, not_false_eq_true, not_true_eq_false, or_self, or_false, false_or, if_true, if_false, reduceIte, RF_o H, RF_1239 H, RO_647 H, RL_647 H, zR_pE, zT_pE, zL_pE, zn_pE, zE_pE, zI_pE, zR_pI, zT_pI, zL_pI, zn_pI, zE_pI, zI_pI, nx, gx, lx, em, c, zi_16, eo, d, zi_one]
def plcI (s : Nat) (r : Option Nat) : Int32 := match r with
  | none => -1
  | some x => nI (16 * s + x)
theorem w_withOrigin {vs : Nat → List Prg} {now : Int32} {TX : List (Nat × Nat × Nat × Prg)} {K : Nat} {h : Hp} {W : Wld} (R : RW vs now TX K h W) (hK : K ≤ 1600) {s : Nat} (hs : s < 4) (o : Int32) : f_X11_withOrigin 616 (nI s) o h = some (plcI s (shOrg (W s) o), h) := by
  obtain ⟨G, tb, bs⟩ := R.base hK
  obtain ⟨b1, b2, b3, -⟩ := bs s hs
  have H := G.1
  obtain ⟨C, ⟨-, hI, I, EE, rs⟩, -⟩ := R s hs
  have os := othQ_add W hs
  rw [os] at rs
  have e := w_withOrigin_go (EE := EE) (F := fun n => flE (shF (W s) n)) H hs (by omega : totQ W ≤ 60000) b3 b2 (fun n hn => ⟨(rs.2.2.1 n hn).1, (hI.1.len hn).1⟩) o (shN (W s)) 0 fz (by omega) (fz_big (by omega))
  rw [← List.range_eq_range'] at e
  exact e
theorem w_hasSignal_go {h : Hp} (H : RF h) {N w : Nat} {E : List Nat} {es : List Evt} (hw : w < 64) (hN : N ≤ 60000) (ev : evsAt h N w E es) (o : Int32) : ∀ (m j fuel : Nat), j + m = es.length → m < fuel → f_X11_hasSignal_2 fuel 616 (nI w) o (nI j) h = some (if hasSig (es.drop j) o = true then 1 else 0, h)
  | m, j, 0, _, hf => absurd hf (Nat.not_lt_zero _)
  | 0, j, fuel + 1, hj, hf => by
    have hes := ev.2.1.2
    have c1 : nI es.length ≤ nI j := (zi_le (by omega) (by omega)).mpr (by omega)
    have nx : (nI w).toNatClampNeg = w := zi_nat (by omega)
    have gx : ¬ nI w < 0 := zi_neg (by omega)
    have lx : ¬ 64 ≤ w := by omega
    have e49 := ev.1
    rw [List.drop_of_length_le (by omega)]
    simp only [f_X11_hasSignal_2, o10, o00, bh, isO, inR, ck_true, bind_some9, Nat.reduceLeDiff, Nat.reduceEqDiff, and_self, and_true, true_and, false_and, and_false, not_false_eq_true, not_true_eq_false, or_self, or_false, false_or, if_true, if_false, reduceIte, RF_o H, RF_1229 H, RO_637 H, RL_637 H, RF_1241 H, RO_649 H, RL_649 H, zR_pE, zT_pE, zL_pE, zn_pE, zE_pE, zI_pE, zR_pI, zT_pI, zL_pI, zn_pI, zE_pI, zI_pI, nx, gx, lx, e49, c1]
    rfl
  | m + 1, j, fuel + 1, hj, hf => by
    have hes := ev.2.1.2
    have c1 : ¬ nI es.length ≤ nI j := zi_le0 (by omega) (by omega) (by omega)
    have nx : (nI w).toNatClampNeg = w := zi_nat (by omega)
    have gx : ¬ nI w < 0 := zi_neg (by omega)
    have lx : ¬ 64 ≤ w := by omega
    have e49 := ev.1
    have hj2 : j < es.length := by omega
    obtain ⟨i, rn, rt, hi, hrn, hK, hiE, hrec⟩ := ev.at hj2
    have eE := w_event H hw (by omega) hiE
    have eK : f_X11_kindOf 616 (nI i) h = some (nI (evAt es j).1, h) := w_kind H (by omega) hrec hK hrn
    have ed : es.drop j = evAt es j :: es.drop (j + 1) := by
      rw [List.drop_eq_getElem_cons hj2]
      congr 1
      unfold evAt
      rw [List.getD_eq_getElem?_getD, List.getElem?_eq_getElem hj2]
      rfl
    have rC : zE h 637 i = (evAt es j).2.2.2 := hrec.2.2.2.2
    have ni : (nI i).toNatClampNeg = i := zi_nat (by omega)
    have gi : ¬ nI i < 0 := zi_neg (by omega)
    have li : ¬ 60000 ≤ i := by omega
    have c8i : nI (evAt es j).1 = (8 : Int32) ↔ (evAt es j).1 = 8 := zi_eq (b := 8) (by omega) (by omega)
    have ih := w_hasSignal_go H hw hN ev o m (j + 1) fuel (by omega) (by omega)
    have hc : hasSig (es.drop j) o = ((decide ((evAt es j).1 = 8) && decide ((evAt es j).2.2.2 = o)) || hasSig (es.drop (j + 1)) o) := by rw [ed]; rfl
    rw [hc]
    by_cases c8 : (evAt es j).1 = 8
    · have d8 := eq_true (c8i.mpr c8)
      by_cases co : (evAt es j).2.2.2 = o
      · have d := eq_true co
        rw [decide_eq_true c8, decide_eq_true co, Bool.true_and, Bool.true_or, if_pos rfl]
        simp only [f_X11_hasSignal_2, o10, o00, bh, isO, inR, ck_true, bind_some9, Nat.reduceLeDiff, Nat.reduceEqDiff, and_self, and_true, true_and, false_and, and_false, not_false_eq_true, not_true_eq_false, or_self, or_false, false_or, if_true, if_false, reduceIte, RF_o H, RF_1229 H, RO_637 H, RL_637 H, RF_1241 H, RO_649 H, RL_649 H, zR_pE, zT_pE, zL_pE, zn_pE, zE_pE, zI_pE, zR_pI, zT_pI, zL_pI, zn_pI, zE_pI, zI_pI, nx, gx, lx, e49, c1, eE, eK, d8, ni, gi, li, rC, d]
      · have d := eq_false co
        rw [decide_eq_false co, Bool.and_false, Bool.false_or, ← ih]
        simp only [f_X11_hasSignal_2, f_X11_hasSignal_44, o10, o00, bh, isO, inR, ck_true, bind_some9, Nat.reduceLeDiff, Nat.reduceEqDiff, and_self, and_true, true_and, false_and, and_false, not_false_eq_true, not_true_eq_false, or_self, or_false, false_or, if_true, if_false, reduceIte, RF_o H, RF_1229 H, RO_637 H, RL_637 H, RF_1241 H, RO_649 H, RL_649 H, zR_pE, zT_pE, zL_pE, zn_pE, zE_pE, zI_pE, zR_pI, zT_pI, zL_pI, zn_pI, zE_pI, zI_pI, nx, gx, lx, e49, c1, eE, eK, d8, ni, gi, li, rC, d, zi_one]
    · have d8 := eq_false (fun z => c8 (c8i.mp z))
      rw [decide_eq_false c8, Bool.false_and, Bool.false_or, ← ih]
      simp only [f_X11_hasSignal_2, f_X11_hasSignal_44, o10, o00, bh, isO, inR, ck_true, bind_some9, Nat.reduceLeDiff, Nat.reduceEqDiff, and_self, and_true, true_and, false_and, and_false, not_false_eq_true, not_true_eq_false, or_self, or_false, false_or, if_true, if_false, reduceIte, RF_o H, RF_1229 H, RO_637 H, RL_637 H, RF_1241 H, RO_649 H, RL_649 H, zR_pE, zT_pE, zL_pE, zn_pE, zE_pE, zI_pE, zR_pI, zT_pI, zL_pI, zn_pI, zE_pI, zI_pI, nx, gx, lx, e49, c1, eE, eK, d8, zi_one]
theorem w_hasSignal {h : Hp} (H : RF h) {N w : Nat} {E : List Nat} {es : List Evt} (hw : w < 64) (hN : N ≤ 60000) (ev : evsAt h N w E es) (o : Int32) : f_X11_hasSignal 616 (nI w) o h = some (if hasSig es o = true then 1 else 0, h) := by
  have hes := ev.2.1.2
  have := w_hasSignal_go H hw hN ev o es.length 0 fz (by omega) (fz_big (by omega))
  rw [List.drop_zero] at this
  exact this
theorem w_childOf_go {h : Hp} (H : RF h) {N w k : Nat} {E : List Nat} {es : List Evt} (hw : w < 64) (hN : N ≤ 60000) (ev : evsAt h N w E es) (hk : k ≤ es.length) : ∀ (m j c fuel : Nat), j + m = k → m < fuel → f_X11_childOf_5 fuel 616 (nI w) (nI k) (nI c) (nI j) h = some (nI (c + cntK 6 ((es.take k).drop j)), h)
  | m, j, c, 0, _, hf => absurd hf (Nat.not_lt_zero _)
  | 0, j, c, fuel + 1, hj, hf => by
    have hes := ev.2.1.2
    have c1 : nI k ≤ nI j := (zi_le (by omega) (by omega)).mpr (by omega)
    rw [List.drop_of_length_le (by rw [List.length_take]; omega)]
    unfold f_X11_childOf_5
    rw [if_pos c1]
    rfl
  | m + 1, j, c, fuel + 1, hj, hf => by
    have hes := ev.2.1.2
    have c1 : ¬ nI k ≤ nI j := zi_le0 (by omega) (by omega) (by omega)
    obtain ⟨i, rn, rt, hi, hrn, hK, hiE, hrec⟩ := ev.at (by omega : j < es.length)
    have eE := w_event H hw (by omega) hiE
    have eK : f_X11_kindOf 616 (nI i) h = some (nI (evAt es j).1, h) := w_kind H (by omega) hrec hK hrn
    have ed := take_drop_cons (es := es) (by omega : j < k) hk
    have c6i : nI (evAt es j).1 = (6 : Int32) ↔ (evAt es j).1 = 6 := zi_eq (b := 6) (by omega) (by omega)
    have hcn : cntK 6 ((es.take k).drop j) = (if (evAt es j).1 = 6 then 1 else 0) + cntK 6 ((es.take k).drop (j + 1)) := by
      rw [ed]
      unfold cntK
      rw [List.filter_cons]
      by_cases c6 : (evAt es j).1 = 6
      · rw [if_pos (decide_eq_true c6), if_pos c6, List.length_cons]; omega
      · rw [if_neg (by simp [c6]), if_neg c6]; omega
    have ih := w_childOf_go H hw hN ev hk m (j + 1) (c + if (evAt es j).1 = 6 then 1 else 0) fuel (by omega) (by omega)
    rw [hcn]
    by_cases c6 : (evAt es j).1 = 6
    · rw [if_pos c6] at ih ⊢
      have d := eq_true (c6i.mpr c6)
      simp only [f_X11_childOf_5, f_X11_childOf_33, o10, o00, bh, isO, inR, ck_true, bind_some9, Nat.reduceLeDiff, Nat.reduceEqDiff, and_self, and_true, true_and, false_and, and_false, not_false_eq_true, not_true_eq_false, or_self, or_false, false_or, if_true, if_false, reduceIte, RF_o H, zR_pE, zT_pE, zL_pE, zn_pE, zE_pE, zI_pE, zR_pI, zT_pI, zL_pI, zn_pI, zE_pI, zI_pI, c1, eE, eK, d, zi_one, ih, Nat.add_assoc]
    · rw [if_neg c6, Nat.add_zero] at ih
      rw [if_neg c6]
      have d := eq_false (fun z => c6 (c6i.mp z))
      have z0 : nI c + (0 : Int32) = nI c := zi_add c 0
      simp only [f_X11_childOf_5, f_X11_childOf_33, o10, o00, bh, isO, inR, ck_true, bind_some9, Nat.reduceLeDiff, Nat.reduceEqDiff, and_self, and_true, true_and, false_and, and_false, not_false_eq_true, not_true_eq_false, or_self, or_false, false_or, if_true, if_false, reduceIte, RF_o H, zR_pE, zT_pE, zL_pE, zn_pE, zE_pE, zI_pE, zR_pI, zT_pI, zL_pI, zn_pI, zE_pI, zI_pI, c1, eE, eK, d, zi_one, z0, ih, Nat.zero_add]
theorem w_childOf {h : Hp} (H : RF h) {N w k : Nat} {E : List Nat} {es : List Evt} (hw : w < 64) (hN : N ≤ 60000) (ev : evsAt h N w E es) (hk : k ≤ es.length) : f_X11_childOf 616 (nI w) (nI k) h = some (nI (cntK 6 (es.take k)), h) := by
  have hes := ev.2.1.2
  have := w_childOf_go H hw hN ev hk k 0 0 fz (by omega) (fz_big (by omega))
  rw [List.drop_zero, Nat.zero_add] at this
  exact this
/-- the program of the c-th child: its event is there -/
theorem w_programOf_go {h : Hp} (H : RF h) {N w : Nat} {E : List Nat} {es : List Evt} (hw : w < 64) (hN : N ≤ 60000) (ev : evsAt h N w E es) : ∀ (m j c fuel d : Nat), j + m = es.length → m < fuel → plcOf 6 (es.drop j) c = some d → f_X11_programOf_5 fuel 616 (nI w) (nI j) (nI c) h = some ((evAt es (j + d)).2.1, h)
  | m, j, c, 0, d, _, hf, _ => absurd hf (Nat.not_lt_zero _)
  | 0, j, c, fuel + 1, d, hj, hf, hp => by
    rw [List.drop_of_length_le (by omega)] at hp
    cases hp
  | m + 1, j, c, fuel + 1, d, hj, hf, hp => by
    have hes := ev.2.1.2
    have hj2 : j < es.length := by omega
    obtain ⟨i, rn, rt, hi, hrn, hK, hiE, hrec⟩ := ev.at hj2
    have eE := w_event H hw (by omega) hiE
    have eK : f_X11_kindOf 616 (nI i) h = some (nI (evAt es j).1, h) := w_kind H (by omega) hrec hK hrn
    have ed : es.drop j = evAt es j :: es.drop (j + 1) := by
      rw [List.drop_eq_getElem_cons hj2]
      congr 1
      unfold evAt
      rw [List.getD_eq_getElem?_getD, List.getElem?_eq_getElem hj2]
      rfl
    have rA : zE h 635 i = (evAt es j).2.1 := hrec.2.2.1
    have ni : (nI i).toNatClampNeg = i := zi_nat (by omega)
    have gi : ¬ nI i < 0 := zi_neg (by omega)
    have li : ¬ 60000 ≤ i := by omega
    have c6i : nI (evAt es j).1 = (6 : Int32) ↔ (evAt es j).1 = 6 := zi_eq (b := 6) (by omega) (by omega)
    have hcl : c < 61 := by
      have hl := (plc_in 6 hp).1
      have : ∀ (L : List Evt) (c d : Nat), plcOf 6 L c = some d → c < L.length := fun L => by
        induction L with
        | nil => intro c d z; cases z
        | cons e r ihr =>
          intro c d z
          unfold plcOf at z
          split at z
          · cases c with
            | zero => simp
            | succ c =>
              have z : (plcOf 6 r c).map (· + 1) = some d := z
              cases hz : plcOf 6 r c with
              | none => rw [hz] at z; cases z
              | some y => have := ihr c y hz; rw [List.length_cons]; omega
          · cases hz : plcOf 6 r c with
            | none => rw [hz] at z; cases z
            | some y => have := ihr c y hz; rw [List.length_cons]; omega
      have := this _ c d hp
      rw [List.length_drop] at this
      omega
    rw [ed] at hp
    unfold plcOf at hp
    have nxt : ∀ (c1 y : Nat), plcOf 6 (es.drop (j + 1)) c1 = some y → f_X11_programOf_5 fuel 616 (nI w) (nI (j + 1)) (nI c1) h = some ((evAt es (j + 1 + y)).2.1, h) := fun c1 y hy => w_programOf_go H hw hN ev m (j + 1) c1 fuel y (by omega) (by omega) hy
    have z0 : nI c - (0 : Int32) = nI c := zi_sub (b := 0) (Nat.zero_le _)
    have q0 : (0 : Int32) < nI c ↔ 0 < c := zi_lt (a := 0) (by omega) (by omega)
    by_cases c6 : (evAt es j).1 = 6
    · rw [if_pos c6] at hp
      have d6 := eq_true (c6i.mpr c6)
      cases c with
      | zero =>
        have hp : (0 : Nat) = d := Option.some.inj hp
        have d0 := eq_false (fun z => absurd (q0.mp z) (by omega))
        rw [← hp, Nat.add_zero]
        simp only [f_X11_programOf_5, o10, o00, bh, isO, inR, ck_true, bind_some9, Nat.reduceLeDiff, Nat.reduceEqDiff, and_self, and_true, true_and, false_and, and_false, not_false_eq_true, not_true_eq_false, or_self, or_false, false_or, if_true, if_false, reduceIte, RF_o H, RF_1227 H, RO_635 H, RL_635 H, zR_pE, zT_pE, zL_pE, zn_pE, zE_pE, zI_pE, zR_pI, zT_pI, zL_pI, zn_pI, zE_pI, zI_pI, d0, eE, eK, d6, ni, gi, li, rA]
        rfl
      | succ c =>
        have d0 := eq_true (q0.mpr (by omega))
        have hp : (plcOf 6 (es.drop (j + 1)) c).map (· + 1) = some d := hp
        cases hz : plcOf 6 (es.drop (j + 1)) c with
        | none => rw [hz] at hp; cases hp
        | some y =>
          rw [hz] at hp
          have hp : y + 1 = d := Option.some.inj hp
          have e9 := nxt c y hz
          have s1 : nI (c + 1) - (1 : Int32) = nI c := zi_sub (b := 1) (by omega)
          rw [← hp, show j + (y + 1) = j + 1 + y by omega, ← e9]
          simp only [f_X11_programOf_5, f_X11_programOf_25, f_X11_programOf_47, o10, o00, bh, isO, inR, ck_true, bind_some9, Nat.reduceLeDiff, Nat.reduceEqDiff, and_self, and_true, true_and, false_and, and_false, not_false_eq_true, not_true_eq_false, or_self, or_false, false_or, if_true, if_false, reduceIte, RF_o H, RF_1227 H, RO_635 H, RL_635 H, zR_pE, zT_pE, zL_pE, zn_pE, zE_pE, zI_pE, zR_pI, zT_pI, zL_pI, zn_pI, zE_pI, zI_pI, d0, eE, eK, d6, s1, zi_one]
    · rw [if_neg c6] at hp
      have d6 := eq_false (fun z => c6 (c6i.mp z))
      cases hz : plcOf 6 (es.drop (j + 1)) c with
      | none => rw [hz] at hp; cases hp
      | some y =>
        rw [hz] at hp
        have hp : y + 1 = d := Option.some.inj hp
        have e9 := nxt c y hz
        rw [← hp, show j + (y + 1) = j + 1 + y by omega, ← e9]
        by_cases cc : 0 < c
        · have d0 := eq_true (q0.mpr cc)
          simp only [f_X11_programOf_5, f_X11_programOf_25, f_X11_programOf_47, o10, o00, bh, isO, inR, ck_true, bind_some9, Nat.reduceLeDiff, Nat.reduceEqDiff, and_self, and_true, true_and, false_and, and_false, not_false_eq_true, not_true_eq_false, or_self, or_false, false_or, if_true, if_false, reduceIte, RF_o H, RF_1227 H, RO_635 H, RL_635 H, zR_pE, zT_pE, zL_pE, zn_pE, zE_pE, zI_pE, zR_pI, zT_pI, zL_pI, zn_pI, zE_pI, zI_pI, d0, eE, eK, d6, z0, zi_one]
        · have d0 := eq_false (fun z => cc (q0.mp z))
          simp only [f_X11_programOf_5, f_X11_programOf_25, f_X11_programOf_47, o10, o00, bh, isO, inR, ck_true, bind_some9, Nat.reduceLeDiff, Nat.reduceEqDiff, and_self, and_true, true_and, false_and, and_false, not_false_eq_true, not_true_eq_false, or_self, or_false, false_or, if_true, if_false, reduceIte, RF_o H, RF_1227 H, RO_635 H, RL_635 H, zR_pE, zT_pE, zL_pE, zn_pE, zE_pE, zI_pE, zR_pI, zT_pI, zL_pI, zn_pI, zE_pI, zI_pI, d0, eE, eK, d6, z0, zi_one]
theorem w_programOf {h : Hp} (H : RF h) {N w c d : Nat} {E : List Nat} {es : List Evt} (hw : w < 64) (hN : N ≤ 60000) (ev : evsAt h N w E es) (hp : plcOf 6 es c = some d) : f_X11_programOf 616 (nI w) (nI c) h = some ((evAt es d).2.1, h) := by
  have hes := ev.2.1.2
  have := w_programOf_go H hw hN ev es.length 0 c fz d (by omega) (fz_big (by omega)) (by rw [List.drop_zero]; exact hp)
  rw [Nat.zero_add] at this
  exact this
/-! MESSAGES ARE DELIVERED, IN THE REFERENCE -/
/-- what a delivery answers and leaves -/
def dlR (vs : Nat → List Prg) (now : Int32) (TX : List (Nat × Nat × Nat × Prg)) (K : Nat) (h : Hp) (W : Wld) (r : Bool × Wld) (x : Option (Int32 × Hp)) : Prop := ∃ h1, x = some (if r.1 = true then 1 else 0, h1) ∧ RW vs now TX K h1 r.2 ∧ frx (wdF (totQ W)) h h1
theorem dlR.stay {vs : Nat → List Prg} {now : Int32} {TX : List (Nat × Nat × Nat × Prg)} {K : Nat} {h : Hp} {W : Wld} (R : RW vs now TX K h W) {b : Bool} {x : Option (Int32 × Hp)} (e : x = some (if b = true then 1 else 0, h)) : dlR vs now TX K h W (b, W) x := ⟨h, e, R, frx.rf h⟩
/-- an event comes to a row of a shard that works -/
theorem w_comes_W {vs : Nat → List Prg} {now : Int32} {TX : List (Nat × Nat × Nat × Prg)} {K : Nat} {h : Hp} {W : Wld} (R : RW vs now TX K h W) (hK : K ≤ 1600) {t m k : Nat} (ht : t < 4) (hl : shL (W t) ≠ -1) (hm : m < shN (W t)) {a b o : Int32} (ok : evOK (flP (shF (W t) m)) (flE (shF (W t) m)) (k, a, b, o)) : dlR vs now TX K h W ((shBring now (W t) m k a b o).1, upf W t (stl vs now (shBring now (W t) m k a b o).2)) (f_X11_comes 616 (nI (16 * t + m)) (nI k) a b o h) := by
  obtain ⟨C, R1, R2, R3⟩ := R t ht
  obtain ⟨h1, e1, A⟩ := w_comes ht R1 hl (R2 hl) hm ok
  obtain ⟨E, bI, bG, bP, -⟩ := shBring_I now R1.2.1.1 hl hm ok
  obtain ⟨RW1, f1⟩ := R.act2 hK ht A bI (fun z => calm_br (R2 hl) bP z) (bG.2.2.2.1)
  exact ⟨h1, e1, RW1, f1.mono (fpS_wd ht)⟩
theorem b_10 (b : Bool) : ((if b = true then (1 : Int32) else 0) = 0) = (b = false) := by
  cases b
  · exact propext ⟨fun _ => rfl, fun _ => rfl⟩
  · exact propext ⟨fun z => absurd z (by decide), fun z => absurd z (by decide)⟩
theorem w_tells {vs : Nat → List Prg} {now : Int32} {TX : List (Nat × Nat × Nat × Prg)} {K : Nat} {h : Hp} {W : Wld} (R : RW vs now TX K h W) (hK : K ≤ 1600) {t m : Nat} (ht : t < 4) (hl : shL (W t) ≠ -1) (hm : m < shN (W t)) (c v : Int32) : dlR vs now TX K h W (wdTell vs now W t m c v) (f_X11_tells 616 (nI (16 * t + m)) c v h) := by
  obtain ⟨G, tb, -⟩ := R.base hK
  obtain ⟨E, ev, rf, tk, l1, l5, hm16⟩ := R.row ht hm
  have H := G.1
  have nw : (nI (16 * t + m)).toNatClampNeg = 16 * t + m := zi_nat (by omega)
  have gw : ¬ nI (16 * t + m) < 0 := zi_neg (by omega)
  have lw : ¬ 64 ≤ 16 * t + m := by omega
  have e51 := rf.1.1
  have p5 := rf.1.2
  have e49 := ev.1
  have q4 : nI (wkP (rpR (flP (shF (W t) m)) (flE (shF (W t) m)))) = (4 : Int32) ↔ wkP (rpR (flP (shF (W t) m)) (flE (shF (W t) m))) = 4 := zi_eq (b := 4) (by omega) (by omega)
  have eo := w_endOf (c := c) H (by omega : 16 * t + m < 64) (by omega : totQ W ≤ 60000) ev (Nat.le_refl _)
  rw [List.take_length] at eo
  unfold wdTell
  rw [l5]
  by_cases c4 : wkP (rpR (flP (shF (W t) m)) (flE (shF (W t) m))) = 4
  · rw [if_pos (Or.inl c4)]
    have d := eq_true (q4.mpr c4)
    refine dlR.stay R ?_
    simp only [f_X11_tells, o10, o00, bh, isO, inR, ck_true, bind_some9, Nat.reduceLeDiff, Nat.reduceEqDiff, and_self, and_true, true_and, false_and, and_false, not_false_eq_true, not_true_eq_false, or_self, or_false, false_or, if_true, if_false, reduceIte, RF_o H, RF_1241 H, RO_649 H, RL_649 H, RF_1243 H, RO_651 H, RL_651 H, zR_pE, zT_pE, zL_pE, zn_pE, zE_pE, zI_pE, zR_pI, zT_pI, zL_pI, zn_pI, zE_pI, zI_pI, nw, gw, lw, e51, d]
  · have d := eq_false (fun z => c4 (q4.mp z))
    cases he : endOf c (flE (shF (W t) m)) with
    | some y =>
      rw [if_pos (Or.inr (show (some y).isSome = true from rfl))]
      rw [he] at eo
      obtain ⟨i, rn, rt, hi, hrn, hKd, hiE, hrec⟩ := ev.at (endOf_lt he).1
      have eo : f_X11_endOf 616 (nI (16 * t + m)) c (nI (flE (shF (W t) m)).length) h = some (nI i, h) := by rw [eo, ← hiE]
      have n1 : ¬ nI i = -1 := zi_ne1 (by omega)
      refine dlR.stay R ?_
      simp only [f_X11_tells, o10, o00, bh, isO, inR, ck_true, bind_some9, Nat.reduceLeDiff, Nat.reduceEqDiff, and_self, and_true, true_and, false_and, and_false, not_false_eq_true, not_true_eq_false, or_self, or_false, false_or, if_true, if_false, reduceIte, RF_o H, RF_1241 H, RO_649 H, RL_649 H, RF_1243 H, RO_651 H, RL_651 H, zR_pE, zT_pE, zL_pE, zn_pE, zE_pE, zI_pE, zR_pI, zT_pI, zL_pI, zn_pI, zE_pI, zI_pI, nw, gw, lw, e51, d, e49, eo, n1]
    | none =>
      rw [if_neg (by rintro (z | z); exact c4 z; exact Bool.noConfusion z)]
      rw [he] at eo
      have eo : f_X11_endOf 616 (nI (16 * t + m)) c (nI (flE (shF (W t) m)).length) h = some (-1, h) := eo
      obtain ⟨C, R1, R2, R3⟩ := R t ht
      have c5 := R2 hl m hm
      rw [l5] at c5
      obtain ⟨h1, e1, a1, a2⟩ := w_comes_W (k := 7) (a := c) (b := v) (o := 0) R hK ht hl hm (end_ok c4 c5)
      refine ⟨h1, ?_, a1, a2⟩
      have e1 : f_X11_comes 616 (nI (16 * t + m)) 7 c v 0 h = some (if (shBring now (W t) m 7 c v 0).1 = true then 1 else 0, h1) := e1
      have step : f_X11_tells 616 (nI (16 * t + m)) c v h = (f_X11_comes 616 (nI (16 * t + m)) 7 c v 0 h).bind (fun q9 => if q9.1 = 0 then some (0, q9.2) else some (1, q9.2)) := by
        unfold f_X11_tells
        rw [ck_yes (RF_o H), RF_1243 H, ck_yes (RO_651 H), RL_651 H, ck_yes (zi_in (by omega : 16 * t + m < 64) (by omega)), if_neg (by rw [nw, e51]; exact fun z => c4 (q4.mp z)), RF_1241 H, ck_yes (RO_649 H), RL_649 H, ck_yes (zi_in (by omega : 16 * t + m < 64) (by omega)), nw, e49, eo, bind_some9, if_pos rfl, ck_yes (RF_o H)]
      rw [step, e1, bind_some9]
      show (if (if (shBring now (W t) m 7 c v 0).1 = true then (1 : Int32) else 0) = 0 then some ((0 : Int32), h1) else some (1, h1)) = some (if (shBring now (W t) m 7 c v 0).1 = true then 1 else 0, h1)
      cases (shBring now (W t) m 7 c v 0).1 with
      | false => rw [if_neg (fun z => Bool.noConfusion z), if_pos rfl]
      | true => rw [if_pos rfl, if_neg (by decide)]
theorem w_signals_W {vs : Nat → List Prg} {now : Int32} {TX : List (Nat × Nat × Nat × Prg)} {K : Nat} {h : Hp} {W : Wld} (R : RW vs now TX K h W) (hK : K ≤ 1600) {t m : Nat} (ht : t < 4) (hl : shL (W t) ≠ -1) (hm : m < shN (W t)) (v o : Int32) : dlR vs now TX K h W (wdSig vs now W t m v o) (f_X11_signals_ 616 (nI (16 * t + m)) v o h) := by
  obtain ⟨G, tb, -⟩ := R.base hK
  obtain ⟨E, ev, rf, tk, l1, l5, hm16⟩ := R.row ht hm
  have H := G.1
  have nw : (nI (16 * t + m)).toNatClampNeg = 16 * t + m := zi_nat (by omega)
  have n1 : ¬ nI (16 * t + m) = -1 := zi_ne1 (by omega)
  have e51 := rf.1.1
  have p5 := rf.1.2
  have q4 : nI (wkP (rpR (flP (shF (W t) m)) (flE (shF (W t) m)))) = (4 : Int32) ↔ wkP (rpR (flP (shF (W t) m)) (flE (shF (W t) m))) = 4 := zi_eq (b := 4) (by omega) (by omega)
  have es := w_hasSignal H (by omega : 16 * t + m < 64) (by omega : totQ W ≤ 60000) ev o
  unfold wdSig
  rw [l5]
  have head : f_X11_signals_ 616 (nI (16 * t + m)) v o h = if wkP (rpR (flP (shF (W t) m)) (flE (shF (W t) m))) = 4 then some (1, h) else (f_X11_hasSignal 616 (nI (16 * t + m)) o h).bind (fun q6 => if q6.1 = 0 then ck (isO q6.2 616 12) ((f_X11_comes 616 (nI (16 * t + m)) 8 v 0 o q6.2).bind (fun q8 => if q8.1 = 0 then some (0, q8.2) else some (1, q8.2))) else some (1, q6.2)) := by
    unfold f_X11_signals_
    rw [if_neg n1, ck_yes (RF_o H), RF_1243 H, ck_yes (RO_651 H), RL_651 H, ck_yes (zi_in (by omega : 16 * t + m < 64) (by omega))]
    by_cases c4 : wkP (rpR (flP (shF (W t) m)) (flE (shF (W t) m))) = 4
    · rw [if_pos c4, if_pos (by rw [nw, e51]; exact q4.mpr c4)]
    · rw [if_neg c4, if_neg (by rw [nw, e51]; exact fun z => c4 (q4.mp z))]
  by_cases c4 : wkP (rpR (flP (shF (W t) m)) (flE (shF (W t) m))) = 4
  · rw [if_pos (Or.inl c4)]
    exact dlR.stay R (by rw [head, if_pos c4]; rfl)
  · rw [if_neg c4, es, bind_some9] at head
    cases hg : hasSig (flE (shF (W t) m)) o with
    | true =>
      rw [if_pos (Or.inr rfl)]
      refine dlR.stay R ?_
      rw [head, hg]
      rfl
    | false =>
      rw [if_neg (by rintro (z | z); exact c4 z; exact Bool.noConfusion z)]
      obtain ⟨C, R1, R2, R3⟩ := R t ht
      have c5 := R2 hl m hm
      rw [l5] at c5
      obtain ⟨h1, e1, a1, a2⟩ := w_comes_W (k := 8) (a := v) (b := 0) (o := o) R hK ht hl hm (signal_ok c4 c5)
      refine ⟨h1, ?_, a1, a2⟩
      have e1 : f_X11_comes 616 (nI (16 * t + m)) 8 v 0 o h = some (if (shBring now (W t) m 8 v 0 o).1 = true then 1 else 0, h1) := e1
      rw [head, hg]
      show (if (if false = true then (1 : Int32) else 0) = 0 then ck (isO h 616 12) ((f_X11_comes 616 (nI (16 * t + m)) 8 v 0 o h).bind (fun q8 => if q8.1 = 0 then some ((0 : Int32), q8.2) else some (1, q8.2))) else some (1, h)) = _
      rw [if_neg (fun z => Bool.noConfusion z), if_pos rfl, ck_yes (RF_o H), e1, bind_some9]
      show (if (if (shBring now (W t) m 8 v 0 o).1 = true then (1 : Int32) else 0) = 0 then some ((0 : Int32), h1) else some (1, h1)) = some (if (shBring now (W t) m 8 v 0 o).1 = true then 1 else 0, h1)
      cases (shBring now (W t) m 8 v 0 o).1 with
      | false => rw [if_neg (fun z => Bool.noConfusion z), if_pos rfl]
      | true => rw [if_pos rfl, if_neg (by decide)]
theorem w_begins_W {vs : Nat → List Prg} {now : Int32} {TX : List (Nat × Nat × Nat × Prg)} {K : Nat} {h : Hp} {W : Wld} (R : RW vs now TX K h W) (hvs : vsOK vs) (hK : K ≤ 1600) {t : Nat} (ht : t < 4) (hl : shL (W t) ≠ -1) (hN : shN (W t) < 16) {p tt : Nat} (hp : p < 8) (hne : vs p ≠ []) {S : Nat} {Pt : Prg} (htx : TX[tt]? = some (p, (vs p).length - 1, S, Pt)) (x o : Int32) : ∃ h1, f_X11_begins 616 (nI t) (nI tt) x o h = some (if (shBegin vs now (W t) p x o).1 = true then nI (t + 4 * shN (W t)) else -1, h1) ∧ RW vs now TX K h1 (upf W t (stl vs now (shBegin vs now (W t) p x o).2)) ∧ frx (wdF (totQ W)) h h1 := by
  obtain ⟨C, R1, R2, R3⟩ := R t ht
  obtain ⟨h1, e1, A⟩ := w_begins ht hvs R1 hl (R2 hl) hN hp hne htx x o
  obtain ⟨E, bI, bG, b3, b4, b5, b6⟩ := shBegin_I hvs now R1.2.1.1 hl hN hp hne x o
  obtain ⟨RW1, f1⟩ := R.act2 hK ht A bI (fun z y hy => by
    obtain ⟨-, d2, d3⟩ := b5 z
    by_cases e : y = shN (W t)
    · rw [e]; exact d2
    · rw [d3 y e]
      have : (shBegin vs now (W t) p x o).1 = true := by cases hc : (shBegin vs now (W t) p x o).1 with
        | true => rfl
        | false => exact absurd (b4 hc).1 z
      have := b3 this
      exact R2 hl y (by omega)) (bG.2.2.2.1)
  exact ⟨h1, e1, RW1, f1.mono (fpS_wd ht)⟩
theorem w_from {h : Hp} {s n : Nat} (hs : s < 4) (hn : n < 16) (k : Nat) : f_X11_from (nI (16 * s + n)) (nI k) h = some (orgOf s n k, h) := by
  have e := w_numberOf (h := h) hs hn
  have e2 : (64 : Int32) * nI (s + 4 * n) + nI k = nI (64 * (s + 4 * n) + k) := by rw [show (64 : Int32) = nI 64 from rfl, zi_mul, zi_add]
  unfold f_X11_from
  rw [e, bind_some9]
  show some (-1 - ((64 : Int32) * nI (s + 4 * n) + nI k), h) = _
  rw [e2]
  rfl
theorem zi_m4 {a : Nat} (ha : a < 1000000) : nI a - nI a / (4 : Int32) * 4 = nI (a % 4) := by
  rw [show (4 : Int32) = nI 4 from rfl, zi_mod (by omega) (by omega) (by omega)]
theorem plcI_some (s x : Nat) (h : x < 16) (hs : s < 4) : ¬ plcI s (some x) = -1 := zi_ne1 (by show 16 * s + x < _; omega)
theorem w_bears {vs : Nat → List Prg} {now : Int32} {TX : List (Nat × Nat × Nat × Prg)} {K : Nat} {h : Hp} {W : Wld} (R : RW vs now TX K h W) (hvs : vsOK vs) (hK : K ≤ 1600) (lt : ltAt h vs TX) {s n k d : Nat} (hs : s < 4) (hl : shL (W s) ≠ -1) (hn : n < shN (W s)) (hk : k < (flE (shF (W s) n)).length) (hd : d < 8) (ed : (evAt (flE (shF (W s) n)) k).2.1 = nI d) : dlR vs now TX K h W (wdBear vs now W s n k) (f_X11_bears 616 (nI (16 * s + n)) (nI (cntK 6 ((flE (shF (W s) n)).take k))) (nI d) (evAt (flE (shF (W s) n)) k).2.2.1 h) := by
  obtain ⟨G, tb, bs⟩ := R.base hK
  obtain ⟨E, ev, rf, tk, l1, l5, hn16⟩ := R.row hs hn
  have H := G.1
  have hes := ev.2.1.2
  generalize hes9 : flE (shF (W s) n) = es at *
  have hcl : cntK 6 (es.take k) ≤ 60 := by
    have h1 : cntK 6 (es.take k) ≤ (es.take k).length := List.length_filter_le _ _
    rw [List.length_take] at h1; omega
  generalize hc9 : cntK 6 (es.take k) = c at *
  have ht : (s + d) % 4 < 4 := Nat.mod_lt _ (by decide)
  obtain ⟨b1, b2, b3, -⟩ := bs ((s + d) % 4) ht
  have nw : (nI (16 * s + n)).toNatClampNeg = 16 * s + n := zi_nat (by omega)
  have d16 := zi_16d hs hn16
  have dd : (evAt es k).2.1.toNatClampNeg = d := by rw [ed, zi_nat (by omega)]
  have ex1 : nI s + nI d - (nI s + nI d) / (4 : Int32) * 4 = nI ((s + d) % 4) := by rw [zi_add]; exact zi_m4 (by omega)
  have fr := w_from (h := h) hs hn16 c
  have wo := w_withOrigin R hK ht (orgOf s n c)
  have eo := w_endOf (c := nI c) H (by omega : 16 * s + n < 64) (by omega : totQ W ≤ 60000) ev (Nat.le_refl _)
  rw [List.take_length] at eo
  have e49 := ev.1
  unfold wdBear
  simp only []
  rw [hes9, dd, hc9]
  generalize htt : (s + d) % 4 = t at *
  have nt : (nI t).toNatClampNeg = t := zi_nat (by omega)
  have b1' : zE h 645 (nI t).toNatClampNeg = shL (W t) := by rw [nt]; exact b1
  have b2' : zE h 647 (nI t).toNatClampNeg = nI (shN (W t)) := by rw [nt]; exact b2
  unfold f_X11_bears bh
  rw [d16, ex1]
  show dlR vs now TX K h W _ (ck (isO h 616 12) (ck (isO h (zR h 1237 616) 22) (ck (inR (nI t) (zL h (zR h 1237 616))) (if zE h (zR h 1237 616) (nI t).toNatClampNeg = -1 then some ((0 : Int32), h) else (f_X11_from (nI (16 * s + n)) (nI c) h).bind _))))
  rw [ck_yes (RF_o H), RF_1237 H, ck_yes (RO_645 H), RL_645 H, ck_yes (zi_in (by omega : t < 4) (by omega))]
  by_cases cl : shL (W t) = -1
  · rw [if_pos cl, if_pos (show zE h 645 (nI t).toNatClampNeg = -1 by rw [b1']; exact cl)]
    exact dlR.stay R rfl
  · rw [if_neg cl, if_neg (show ¬ zE h 645 (nI t).toNatClampNeg = -1 by rw [b1']; exact cl), fr, bind_some9]
    show dlR vs now TX K h W _ (ck (isO h 616 12) ((f_X11_withOrigin 616 (nI t) (orgOf s n c) h).bind _))
    rw [ck_yes (RF_o H), wo, bind_some9]
    cases ho : shOrg (W t) (orgOf s n c) with
    | some y =>
      have hy := (shOrg_some ho).1
      rw [if_pos (Or.inl (show (some y).isSome = true from rfl))]
      show dlR vs now TX K h W _ (if plcI t (some y) = -1 then _ else _)
      rw [if_neg (plcI_some t y (by omega) ht)]
      exact dlR.stay R rfl
    | none =>
      show dlR vs now TX K h W _ (if (-1 : Int32) = -1 then _ else _)
      rw [if_pos rfl, ck_yes (RF_o H)]
      show dlR vs now TX K h W _ (ck (isO h (zR h 1241 616) 22) (ck (inR (nI (16 * s + n)) (zL h (zR h 1241 616))) ((f_X11_endOf 616 (nI (16 * s + n)) (nI c) (zE h (zR h 1241 616) (nI (16 * s + n)).toNatClampNeg) h).bind _)))
      rw [RF_1241 H, ck_yes (RO_649 H), RL_649 H, ck_yes (zi_in (by omega : 16 * s + n < 64) (by omega)), nw, e49, eo, bind_some9]
      cases he : endOf (nI c) es with
      | some y =>
        rw [if_pos (Or.inr (show (some y).isSome = true from rfl))]
        obtain ⟨i, rn, rt, hi, hrn, hKd, hiE, hrec⟩ := ev.at (endOf_lt he).1
        show dlR vs now TX K h W _ (if zE h 648 (60 * (16 * s + n) + y) = -1 then _ else _)
        rw [if_neg (by rw [hiE]; exact zi_ne1 (by omega))]
        exact dlR.stay R rfl
      | none =>
        rw [if_neg (by rintro (z | z) <;> exact Bool.noConfusion z)]
        show dlR vs now TX K h W _ (if (-1 : Int32) = -1 then _ else _)
        rw [if_pos rfl, ck_yes (RF_o H)]
        show dlR vs now TX K h W _ (ck (isO h (zR h 1239 616) 22) (ck (inR (nI t) (zL h (zR h 1239 616))) (if (16 : Int32) ≤ zE h (zR h 1239 616) (nI t).toNatClampNeg then _ else _)))
        rw [RF_1239 H, ck_yes (RO_647 H), RL_647 H, ck_yes (zi_in (by omega : t < 4) (by omega))]
        have q16 : (16 : Int32) ≤ nI (shN (W t)) ↔ 16 ≤ shN (W t) := zi_le (a := 16) (by omega) (by omega)
        obtain ⟨ht1, he1, hr1, hf1⟩ := w_tells R hK hs hl hn (nI c) (-3)
        have told : dlR vs now TX K h W (wdTell vs now W s n (nI c) (-3)) ((f_X11_tells 616 (nI (16 * s + n)) (nI c) (-3) h).bind (fun q => ck (isB q.1) (some (q.1, q.2)))) := by
          refine ⟨ht1, ?_, hr1, hf1⟩
          rw [he1, bind_some9]
          show ck (isB (if (wdTell vs now W s n (nI c) (-3)).1 = true then 1 else 0)) (some ((if (wdTell vs now W s n (nI c) (-3)).1 = true then 1 else 0), ht1)) = _
          cases (wdTell vs now W s n (nI c) (-3)).1 with
          | false => exact ck_yes isB_0
          | true => exact ck_yes isB_1
        by_cases c16 : 16 ≤ shN (W t)
        · rw [if_neg (show ¬ (shN (W t) < 16 ∧ vs d ≠ []) from fun z => absurd z.1 (by omega)), if_pos (show (16 : Int32) ≤ zE h 647 (nI t).toNatClampNeg by rw [b2']; exact q16.mpr c16)]
          exact told
        · rw [if_neg (show ¬ (16 : Int32) ≤ zE h 647 (nI t).toNatClampNeg from fun z => by rw [b2'] at z; exact c16 (q16.mp z))]
          show dlR vs now TX K h W _ (ck (isO h (zR h 1211 616) 22) (ck (inR (nI d) (zL h (zR h 1211 616))) (if zE h (zR h 1211 616) (nI d).toNatClampNeg = -1 then _ else _)))
          rw [RF_1211 H, ck_yes (RO_622 H), RL_622 H, ck_yes (zi_in (by omega : d < 8) (by omega))]
          have ndd : (nI d).toNatClampNeg = d := zi_nat (by omega)
          by_cases cv : vs d = []
          · rw [if_neg (show ¬ (shN (W t) < 16 ∧ vs d ≠ []) from fun z => z.2 cv), if_pos (show zE h 622 (nI d).toNatClampNeg = -1 by rw [ndd]; exact (lt d hd).1 cv)]
            exact told
          · obtain ⟨tt, S, P, lt1, lt2⟩ := (lt d hd).2 cv
            have ltl := (List.getElem?_eq_some_iff.mp lt2).1
            have lt4 := G.2.2.2.1.1
            have lt1' : zE h 622 (nI d).toNatClampNeg = nI tt := by rw [ndd]; exact lt1
            rw [if_pos (show shN (W t) < 16 ∧ vs d ≠ [] from ⟨by omega, cv⟩), if_neg (show ¬ zE h 622 (nI d).toNatClampNeg = -1 by rw [lt1']; exact zi_ne1 (by omega)), fr, bind_some9]
            show dlR vs now TX K h W _ (ck (isO h 616 12) ((f_X11_begins 616 (nI t) (zE h 622 (nI d).toNatClampNeg) (evAt es k).2.2.1 (orgOf s n c) h).bind _))
            rw [ck_yes (RF_o H), lt1']
            obtain ⟨h1, e1, r1, f1⟩ := w_begins_W R hvs hK ht cl (by omega) hd cv lt2 (evAt es k).2.2.1 (orgOf s n c)
            rw [e1, bind_some9]
            refine ⟨h1, ?_, r1, f1⟩
            show (if (if (shBegin vs now (W t) d (evAt es k).2.2.1 (orgOf s n c)).1 = true then nI (t + 4 * shN (W t)) else -1) = -1 then some ((0 : Int32), h1) else some (1, h1)) = some (if (shBegin vs now (W t) d (evAt es k).2.2.1 (orgOf s n c)).1 = true then 1 else 0, h1)
            cases (shBegin vs now (W t) d (evAt es k).2.2.1 (orgOf s n c)).1 with
            | false => rw [if_neg (fun z => Bool.noConfusion z), if_pos rfl, if_neg (fun z => Bool.noConfusion z)]
            | true => rw [if_pos rfl, if_neg (zi_ne1 (by omega)), if_pos rfl]
