/-! MESSAGES, IN THE REFERENCE -/
theorem ltAt.on {vs : Nat → List Prg} {TX : List (Nat × Nat × Nat × Prg)} {h h1 : Hp} {N : Nat} (l : ltAt h vs TX) (f : frx (wdF N) h h1) : ltAt h1 vs TX := fun p hp => by
  have e : zE h1 622 p = zE h 622 p := f.2.2.2 622 p (fun z => by
    rcases z with ⟨s, -, z⟩ | z
    · unfold shS at z; omega
    · unfold shX at z; omega)
  rw [e]
  exact l p hp
theorem w_forget_W {vs : Nat → List Prg} {now : Int32} {TX : List (Nat × Nat × Nat × Prg)} {K : Nat} {h : Hp} {W : Wld} (R : RW vs now TX K h W) (hK : K ≤ 1600) {s p : Nat} (hs : s < 4) (hl : shL (W s) ≠ -1) (hp : ∃ m ∈ shO (W s), m.1 = p) :
    ∃ r h1, f_X11_does (f_losesD 30) 616 (nI s) 0 14 (nI p) 0 0 h = some (r, h1) ∧ ((r = 0 ∧ RW vs now TX K h1 (upf W s (stl vs now (shForget (W s) p))) ∧ frx (wdF (totQ W)) h h1) ∨ (r = 1 ∧ frx (wdF (totQ W)) h h1 ∧ ∃ j, f_X11_outOf 616 (nI s) (nI p) h1 = some (nI (1024 * s + j), h1) ∧ ∃ h2, f_X11_leaves 616 (nI s) (nI (1024 * s + j)) h1 = some h2 ∧ RW vs now TX K h2 (upf W s (stl vs now (shForget (W s) p))) ∧ frx (wdF (totQ W)) h h2)) := by
  obtain ⟨C, R1, R2, R3⟩ := R s hs
  obtain ⟨G, tb, -⟩ := R.base hK
  have os := othQ_add W hs
  obtain ⟨E, fI, fG, fN, fw9, fl9⟩ := shForget_I R1.2.1.1 hl hp (by omega)
  have hcl : shL (shForget (W s) p) ≠ -1 → calm (shForget (W s) p) := fun z x hx => by
    rw [(fw9 z).2.1]
    exact R2 hl x (by omega)
  have hqq : shQ (W s) ≤ shQ (shForget (W s) p) := fG.2.2.2.1
  obtain ⟨r, h1, e1, alt⟩ := w_forget hs R1 hl (R2 hl) hp
  rcases alt with ⟨er, A⟩ | ⟨er, f1, j, eo, h2, el, A⟩
  · obtain ⟨RW1, f2⟩ := R.act2 hK hs A fI hcl hqq
    exact ⟨r, h1, e1, Or.inl ⟨er, RW1, f2.mono (fpS_wd hs)⟩⟩
  · obtain ⟨RW1, f2⟩ := R.act2 hK hs A fI hcl hqq
    rw [os] at f1
    exact ⟨r, h1, e1, Or.inr ⟨er, f1.mono (fpS_wd hs), j, eo, h2, el, RW1, f2.mono (fpS_wd hs)⟩⟩
theorem RW.places {vs : Nat → List Prg} {now : Int32} {TX : List (Nat × Nat × Nat × Prg)} {K : Nat} {h : Hp} {W : Wld} (R : RW vs now TX K h W) (hK : K ≤ 1600) {s : Nat} (hs : s < 4) (hl : shL (W s) ≠ -1) : (∀ m ∈ shO (W s), m.1 < 100000) ∧ (shO (W s)).Pairwise (fun x y => x.1 < y.1) ∧ (shO (W s)).length ≤ 1000 ∧ obAt h s (shO (W s)) := by
  obtain ⟨-, tb, -⟩ := R.base hK
  have os := othQ_add W hs
  obtain ⟨C, R1, R2, R3⟩ := R s hs
  obtain ⟨G, ⟨hI, hY⟩, I, EE, sd, mn, fw, ob⟩ := R1
  refine ⟨fun m hm => ?_, by rw [hI.2.1.2.1]; exact (bkG_log hI.v).2.2.2, ob.2.1, ob⟩
  rw [hI.2.1.2.1] at hm
  have g1 := ((bkG_log hI.v).2.2.1 m hm).1
  rw [lgB_place] at g1
  obtain ⟨l, w, hC⟩ := hI.w hl
  have := (hI.2.2.1.2.1 l w.1).1
  rw [← hC] at this
  omega
theorem wdF_not {N a j : Nat} (h : a < 616 ∨ a = 622 ∨ a = 623 ∨ a = 669) : ¬ wdF N a j := fun z => by
  rcases z with ⟨s, -, z⟩ | z
  · unfold shS at z; omega
  · unfold shX at z; omega
theorem w_messages_40 {vs : Nat → List Prg} {now : Int32} {TX : List (Nat × Nat × Nat × Prg)} {K s : Nat} (hvs : vsOK vs) (hdg : vsDg vs) (hK : K ≤ 1600) (hs : s < 4) {tn : List Nat} (ht : tn.length ≤ 1000) (hp : ∀ p ∈ tn, p < 100000) : ∀ (m j fuel : Nat) (h : Hp) (W : Wld), RW vs now TX K h W → ltAt h vs TX → (∀ (x p : Nat), tn[x]? = some p → zE h 669 x = nI p) → j + m = tn.length → m < fuel → ∃ h1, f_X11_messages_40 fuel 616 (nI s) (nI tn.length) (nI j) h = some h1 ∧ RW vs now TX K h1 (wdMsgs vs now s (tn.drop j) W) ∧ frx (wdF (totQ W)) h h1
  | m, j, 0, h, W, _, _, _, _, hf => absurd hf (Nat.not_lt_zero _)
  | 0, j, fuel + 1, h, W, R, lt, tt, hj, hf => by
    have c : nI tn.length ≤ nI j := (zi_le (by omega) (by omega)).mpr (by omega)
    rw [List.drop_of_length_le (by omega)]
    refine ⟨h, ?_, R, frx.rf h⟩
    unfold f_X11_messages_40
    rw [if_pos c]
  | m + 1, j, fuel + 1, h, W, R, lt, tt, hj, hf => by
    obtain ⟨G, tb, bs⟩ := R.base hK
    obtain ⟨b1, b2, b3, -⟩ := bs s hs
    have H := G.1
    have c : ¬ nI tn.length ≤ nI j := zi_le0 (by omega) (by omega) (by omega)
    have nx : (nI s).toNatClampNeg = s := zi_nat (by omega)
    have gx : ¬ nI s < 0 := zi_neg (by omega)
    have lx : ¬ 4 ≤ s := by omega
    have nj : (nI j).toNatClampNeg = j := zi_nat (by omega)
    have gj : ¬ nI j < 0 := zi_neg (by omega)
    have lj : ¬ 1024 ≤ j := by omega
    have hj2 : j < tn.length := by omega
    have ep := tt j _ (List.getElem?_eq_getElem hj2)
    have hp9 := hp _ (List.getElem_mem hj2)
    rw [List.drop_eq_getElem_cons hj2]
    generalize tn[j]'hj2 = p at *
    by_cases cl : shL (W s) = -1
    · have d := eq_true (b1.trans cl)
      refine ⟨h, ?_, ?_, frx.rf h⟩
      · simp only [f_X11_messages_40, o10, o00, bh, isO, inR, ck_true, bind_some9, Nat.reduceLeDiff, Nat.reduceEqDiff, and_self, and_true, true_and, false_and, and_false, not_false_eq_true, not_true_eq_false, or_self, or_false, false_or, if_true, if_false, reduceIte, RF_o H, RF_1237 H, RO_645 H, RL_645 H, RF_1259 H, RO_667 H, RL_667 H, RF_1260 H, RO_668 H, RL_668 H, RF_1261 H, RO_669 H, RL_669 H, zR_pE, zT_pE, zL_pE, zn_pE, zE_pE, zI_pE, zR_pI, zT_pI, zL_pI, zn_pI, zE_pI, zI_pI, nx, gx, lx, c, d]
      · have e : wdMsgs vs now s (p :: tn.drop (j + 1)) W = W := by
          show (if shL (W s) = -1 then W else _) = W
          rw [if_pos cl]
        rw [e]; exact R
    · have d := eq_false (fun z => cl (b1.symm.trans z))
      obtain ⟨pl1, pl2, pl3, ob⟩ := R.places hK hs cl
      have eo := w_outOf H hs ob hp9 pl1
      have d30 : RW vs now TX K h W := R
      cases hz : (shO (W s)).findIdx? (fun m => decide (m.1 = p)) with
      | none =>
        rw [hz] at eo
        have eo : f_X11_outOf 616 (nI s) (nI p) h = some (-1, h) := eo
        have hn := no_place _ p hz
        obtain ⟨h1, a1, a2, a3⟩ := w_messages_40 hvs hdg hK hs ht hp m (j + 1) fuel h W R lt tt (by omega) (by omega)
        have e : wdMsgs vs now s (p :: tn.drop (j + 1)) W = wdMsgs vs now s (tn.drop (j + 1)) W := by
          show (if shL (W s) = -1 then W else match (shO (W s)).find? (fun m => decide (m.1 = p)) with | none => _ | some m => _) = _
          rw [if_neg cl, hn]
        refine ⟨h1, ?_, by rw [e]; exact a2, a3⟩
        rw [← a1]
        generalize hm1 : (-1 : Int32) = M1 at *
        simp only [f_X11_messages_40, f_X11_messages_143, o10, o00, bh, isO, inR, ck_true, bind_some9, Nat.reduceLeDiff, Nat.reduceEqDiff, and_self, and_true, true_and, false_and, and_false, not_false_eq_true, not_true_eq_false, or_self, or_false, false_or, if_true, if_false, reduceIte, RF_o H, RF_1237 H, RO_645 H, RL_645 H, RF_1259 H, RO_667 H, RL_667 H, RF_1260 H, RO_668 H, RL_668 H, RF_1261 H, RO_669 H, RL_669 H, zR_pE, zT_pE, zL_pE, zn_pE, zE_pE, zI_pE, zR_pI, zT_pI, zL_pI, zn_pI, zE_pI, zI_pI, nx, gx, lx, c, d, nj, gj, lj, ep, eo, hm1, zi_one]
      | some o =>
        obtain ⟨er, jl, mm, em1, em2, em3⟩ := erase_place _ p o pl2 hz
        rw [hz] at eo
        have eo : f_X11_outOf 616 (nI s) (nI p) h = some (nI (1024 * s + (0 + o)), h) := eo
        rw [Nat.zero_add] at eo
        have hm := List.mem_of_getElem? em1
        obtain ⟨o1, o2, o3⟩ := ob.2.2 o mm em1
        have ol := ob.2.1
        have dn := eq_false (zi_ne1 (by omega : 1024 * s + o < 2147483648))
        have no : (nI (1024 * s + o)).toNatClampNeg = 1024 * s + o := zi_nat (by omega)
        have go : ¬ nI (1024 * s + o) < 0 := zi_neg (by omega)
        have lo : ¬ 4096 ≤ 1024 * s + o := by omega
        obtain ⟨C, RC, RC2, RC3⟩ := R s hs
        obtain ⟨m1, m2, m3, m4, m5⟩ := msg_ok hdg RC.2.1.1 hm
        obtain ⟨h1, e1, R1, f1⟩ := w_delivers R hvs hdg hK lt hs cl m1 m2 m4
        have G9 := wdSend_G hvs now (W := W) (s := s) (n := mm.2.1) (k := mm.2.2) cl m1 (fun q => by
          obtain ⟨d, d1, d2⟩ := m5 q
          rw [d2, zi_nat (by omega)]; exact d1)
        have qw : totQ W ≤ totQ (wdSend vs now W s mm.2.1 mm.2.2).2 := by
          have q : leQ W (wdSend vs now W s mm.2.1 mm.2.2).2 := (wdSend_q (vs := vs) (W := W) hs mm.2.1 mm.2.2 now).1
          have := q 0 (by decide)
          have := q 1 (by decide)
          have := q 2 (by decide)
          have := q 3 (by decide)
          unfold totQ
          omega
        obtain ⟨E, ee1, ee2⟩ := G9 s hs C ⟨RC.2.1.1, RC2, RC3⟩
        have still : mm ∈ shO ((wdSend vs now W s mm.2.1 mm.2.2).2 s) := by
          rw [ee1.1.2.1.2.1]
          have := (ee2.2.2.2.2.2.1 rfl (works_upX RC.2.1.1.1 cl)).1
          refine noG_keep this ?_
          rw [← RC.2.1.1.2.1.2.1]; exact hm
        have H1 := H.on f1
        have tt1 : ∀ (x p : Nat), tn[x]? = some p → zE h1 669 x = nI p := fun x p hx => by rw [f1.2.2.2 669 x (wdF_not (by omega))]; exact tt x p hx
        have ep1 : zE h1 669 j = nI p := by rw [f1.2.2.2 669 j (wdF_not (by omega))]; exact ep
        have lt1 := lt.on f1
        have e : wdMsgs vs now s (p :: tn.drop (j + 1)) W = (if (wdSend vs now W s mm.2.1 mm.2.2).1 = true ∧ shL ((wdSend vs now W s mm.2.1 mm.2.2).2 s) ≠ -1 then wdMsgs vs now s (tn.drop (j + 1)) (upf (wdSend vs now W s mm.2.1 mm.2.2).2 s (stl vs now (shForget ((wdSend vs now W s mm.2.1 mm.2.2).2 s) p))) else wdMsgs vs now s (tn.drop (j + 1)) (wdSend vs now W s mm.2.1 mm.2.2).2) := by
          show (if shL (W s) = -1 then W else match (shO (W s)).find? (fun m => decide (m.1 = p)) with | none => _ | some m => _) = _
          rw [if_neg cl, em3]
        rw [e]
        generalize wdSend vs now W s mm.2.1 mm.2.2 = q at *
        obtain ⟨G1, tb1, bs1⟩ := R1.base hK
        obtain ⟨bb1, bb2, bb3, -⟩ := bs1 s hs
        by_cases ct : q.1 = true
        · rw [if_pos ct] at e1
          by_cases cl1 : shL (q.2 s) = -1
          · rw [if_neg (fun z => z.2 cl1)]
            have d1 := eq_true (bb1.trans cl1)
            obtain ⟨h2, a1, a2, a3⟩ := w_messages_40 hvs hdg hK hs ht hp m (j + 1) fuel h1 q.2 R1 lt1 tt1 (by omega) (by omega)
            refine ⟨h2, ?_, a2, f1.trans (a3.mono (wdF_le qw))⟩
            rw [← a1]
            simp only [f_X11_messages_40, f_X11_messages_143, o10, o00, bh, isO, inR, ck_true, bind_some9, Nat.reduceLeDiff, Nat.reduceEqDiff, and_self, and_true, true_and, false_and, and_false, not_false_eq_true, not_true_eq_false, or_self, or_false, false_or, if_true, if_false, reduceIte, RF_o H, RF_1237 H, RO_645 H, RL_645 H, RF_1259 H, RO_667 H, RL_667 H, RF_1260 H, RO_668 H, RL_668 H, RF_1261 H, RO_669 H, RL_669 H, zR_pE, zT_pE, zL_pE, zn_pE, zE_pE, zI_pE, zR_pI, zT_pI, zL_pI, zn_pI, zE_pI, zI_pI, nx, gx, lx, c, d, nj, gj, lj, ep, eo, dn, no, go, lo, o2, o3, e1, RF_o H1, RF_1237 H1, RO_645 H1, RL_645 H1, d1, zi_one]
          · rw [if_pos ⟨ct, cl1⟩]
            have d1 := eq_false (fun z => cl1 (bb1.symm.trans z))
            obtain ⟨r, h2, e2, alt⟩ := w_forget_W R1 hK hs cl1 ⟨mm, still, em2⟩
            have qf : totQ q.2 ≤ totQ (upf q.2 s (stl vs now (shForget (q.2 s) p))) := totQ_up_le hs (Nat.le_trans (by have := shQ_forget (q.2 s) p; omega) (shQ_stl vs now _))
            rcases alt with ⟨er0, R2, f2⟩ | ⟨er1, f2, j9, eo2, h3, el3, R3, f3⟩
            · obtain ⟨h3, a1, a2, a3⟩ := w_messages_40 hvs hdg hK hs ht hp m (j + 1) fuel h2 _ R2 (lt1.on f2) (fun x p hx => by rw [f2.2.2.2 669 x (wdF_not (by omega))]; exact tt1 x p hx) (by omega) (by omega)
              refine ⟨h3, ?_, a2, f1.trans ((f2.trans (a3.mono (wdF_le qf))).mono (wdF_le qw))⟩
              rw [← a1]
              rw [er0] at e2
              simp only [f_X11_messages_40, f_X11_messages_143, o10, o00, bh, isO, inR, ck_true, bind_some9, Nat.reduceLeDiff, Nat.reduceEqDiff, and_self, and_true, true_and, false_and, and_false, not_false_eq_true, not_true_eq_false, or_self, or_false, false_or, if_true, if_false, reduceIte, RF_o H, RF_1237 H, RO_645 H, RL_645 H, RF_1259 H, RO_667 H, RL_667 H, RF_1260 H, RO_668 H, RL_668 H, RF_1261 H, RO_669 H, RL_669 H, zR_pE, zT_pE, zL_pE, zn_pE, zE_pE, zI_pE, zR_pI, zT_pI, zL_pI, zn_pI, zE_pI, zI_pI, nx, gx, lx, c, d, nj, gj, lj, ep, eo, dn, no, go, lo, o2, o3, e1, RF_o H1, RF_1237 H1, RO_645 H1, RL_645 H1, d1, RF_1261 H1, RO_669 H1, RL_669 H1, ep1, e2, zi_one]
            · have H2 := H1.on f2
              have ep2 : zE h2 669 j = nI p := by rw [f2.2.2.2 669 j (wdF_not (by omega))]; exact ep1
              obtain ⟨h4, a1, a2, a3⟩ := w_messages_40 hvs hdg hK hs ht hp m (j + 1) fuel h3 _ R3 (lt1.on f3) (fun x p hx => by rw [f3.2.2.2 669 x (wdF_not (by omega))]; exact tt1 x p hx) (by omega) (by omega)
              refine ⟨h4, ?_, a2, f1.trans ((f3.trans (a3.mono (wdF_le qf))).mono (wdF_le qw))⟩
              rw [← a1]
              rw [er1] at e2
              simp only [f_X11_messages_40, f_X11_messages_143, o10, o00, bh, isO, inR, ck_true, bind_some9, Nat.reduceLeDiff, Nat.reduceEqDiff, and_self, and_true, true_and, false_and, and_false, not_false_eq_true, not_true_eq_false, or_self, or_false, false_or, if_true, if_false, reduceIte, RF_o H, RF_1237 H, RO_645 H, RL_645 H, RF_1259 H, RO_667 H, RL_667 H, RF_1260 H, RO_668 H, RL_668 H, RF_1261 H, RO_669 H, RL_669 H, zR_pE, zT_pE, zL_pE, zn_pE, zE_pE, zI_pE, zR_pI, zT_pI, zL_pI, zn_pI, zE_pI, zI_pI, nx, gx, lx, c, d, nj, gj, lj, ep, eo, dn, no, go, lo, o2, o3, e1, RF_o H1, RF_1237 H1, RO_645 H1, RL_645 H1, d1, RF_1261 H1, RO_669 H1, RL_669 H1, ep1, e2, RF_o H2, RF_1261 H2, RO_669 H2, RL_669 H2, ep2, eo2, el3, zi_one]
        · rw [if_neg ct] at e1
          rw [if_neg (fun z => ct z.1)]
          obtain ⟨h2, a1, a2, a3⟩ := w_messages_40 hvs hdg hK hs ht hp m (j + 1) fuel h1 q.2 R1 lt1 tt1 (by omega) (by omega)
          refine ⟨h2, ?_, a2, f1.trans (a3.mono (wdF_le qw))⟩
          rw [← a1]
          simp only [f_X11_messages_40, f_X11_messages_143, o10, o00, bh, isO, inR, ck_true, bind_some9, Nat.reduceLeDiff, Nat.reduceEqDiff, and_self, and_true, true_and, false_and, and_false, not_false_eq_true, not_true_eq_false, or_self, or_false, false_or, if_true, if_false, reduceIte, RF_o H, RF_1237 H, RO_645 H, RL_645 H, RF_1259 H, RO_667 H, RL_667 H, RF_1260 H, RO_668 H, RL_668 H, RF_1261 H, RO_669 H, RL_669 H, zR_pE, zT_pE, zL_pE, zn_pE, zE_pE, zI_pE, zR_pI, zT_pI, zL_pI, zn_pI, zE_pI, zI_pI, nx, gx, lx, c, d, nj, gj, lj, ep, eo, dn, no, go, lo, o2, o3, e1, zi_one]
/-! A TICK, IN THE REFERENCE -/
/-- what lies beside the state of the shards -/
def asd (a j : Nat) : Prop := (a = 616 ∧ j ≠ 1224) ∨ a = 669 ∨ a = 617 ∨ a = 631 ∨ a = 632
theorem RW.off {vs : Nat → List Prg} {now now1 : Int32} {TX : List (Nat × Nat × Nat × Prg)} {K : Nat} {h h1 : Hp} {W : Wld} {S : Nat → Nat → Prop} (R : RW vs now TX K h W) (f : frx S h h1) (hS : ∀ a j, S a j → asd a j) (hn : zI h1 1201 616 = now1) : RW vs now1 TX K h1 W := fun s hs => by
  obtain ⟨C, ⟨⟨g1, g2, g3, g4, g5⟩, hI, I, EE, rs⟩, R2, R3⟩ := R s hs
  refine ⟨C, ⟨⟨g1.on f, ?_, hn, g4.on f (fun a j z1 z2 z => ?_), g5⟩, hI, I, EE, rs.on f (fun a i _ => ?_) (fun a j z1 z => ?_)⟩, R2, R3⟩
  · rw [f.2.2.1 1224 (fun z => by have := hS _ _ z; unfold asd at this; omega)]; exact g2
  · have := hS _ _ z; unfold asd at this; omega
  · by_cases c : a < 633 ∨ 637 < a
    · exact Or.inr c
    · refine Or.inl (fun z => ?_)
      have := hS _ _ z; unfold asd at this; omega
  · have := hS _ _ z
    unfold asd at this
    unfold shS at z1
    rcases z1 with z1 | z1 | z1 | z1 | z1 | z1 | z1 <;> omega
theorem ltAt.off {vs : Nat → List Prg} {TX : List (Nat × Nat × Nat × Prg)} {h h1 : Hp} {S : Nat → Nat → Prop} (l : ltAt h vs TX) (f : frx S h h1) (hS : ∀ a j, S a j → asd a j) : ltAt h1 vs TX := fun p hp => by
  have e : zE h1 622 p = zE h 622 p := f.2.2.2 622 p (fun z => by have := hS _ _ z; unfold asd at this; omega)
  rw [e]
  exact l p hp
theorem w_messages_9 {s : Nat} (hs : s < 4) {O : List (Nat × Nat × Nat)} : ∀ (m j fuel : Nat) (h : Hp), RF h → obAt h s O → j + m = O.length → m < fuel → (∀ (x : Nat) (y : Nat × Nat × Nat), x < j → O[x]? = some y → zE h 669 x = nI y.1) → ∃ h1, f_X11_messages_9 fuel 616 (nI s) (nI O.length) (nI j) h = f_X11_messages_40 fz 616 (nI s) (nI O.length) 0 h1 ∧ frx (fun a _ => a = 669) h h1 ∧ ∀ (x : Nat) (y : Nat × Nat × Nat), O[x]? = some y → zE h1 669 x = nI y.1
  | m, j, 0, h, _, _, _, hf, _ => absurd hf (Nat.not_lt_zero _)
  | 0, j, fuel + 1, h, H, ob, hj, hf, hx => by
    have ol := ob.2.1
    have c : nI O.length ≤ nI j := (zi_le (by omega) (by omega)).mpr (by omega)
    refine ⟨h, ?_, frx.rf h, fun x y hy => hx x y (by have := (List.getElem?_eq_some_iff.mp hy).1; omega) hy⟩
    conv => lhs; unfold f_X11_messages_9
    rw [if_pos c]
  | m + 1, j, fuel + 1, h, H, ob, hj, hf, hx => by
    have ol := ob.2.1
    have c : ¬ nI O.length ≤ nI j := zi_le0 (by omega) (by omega) (by omega)
    have nj : (nI j).toNatClampNeg = j := zi_nat (by omega)
    have gj : ¬ nI j < 0 := zi_neg (by omega)
    have lj : ¬ 1024 ≤ j := by omega
    have nk : (nI (1024 * s + j)).toNatClampNeg = 1024 * s + j := zi_nat (by omega)
    have gk : ¬ nI (1024 * s + j) < 0 := zi_neg (by omega)
    have lk : ¬ 4096 ≤ 1024 * s + j := by omega
    have hj2 : j < O.length := by omega
    have em := List.getElem?_eq_getElem hj2
    have e66 := (ob.2.2 j _ em).1
    generalize O[j]'hj2 = mm at *
    have f1 : frx (fun a _ => a = 669) h (pE h 669 j (nI mm.1)) := frx_pE rfl
    obtain ⟨h1, a1, a2, a3⟩ := w_messages_9 hs m (j + 1) fuel (pE h 669 j (nI mm.1)) (H.on f1) (ob.on f1 (by omega) (fun a k g _ => by omega)) (by omega) (by omega) (fun x y hxj hy => by
      rw [zE_pE]
      by_cases cx : x = j
      · rw [if_pos ⟨rfl, cx⟩]
        rw [cx, em] at hy
        rw [Option.some.inj hy]
      · rw [if_neg (fun z => cx z.2)]
        exact hx x y (by omega) hy)
    refine ⟨h1, ?_, f1.trans a2, a3⟩
    rw [← a1]
    simp only [f_X11_messages_9, o10, o00, bh, isO, inR, ck_true, bind_some9, Nat.reduceLeDiff, Nat.reduceEqDiff, and_self, and_true, true_and, false_and, and_false, not_false_eq_true, not_true_eq_false, or_self, or_false, false_or, if_true, if_false, reduceIte, RF_o H, RF_1258 H, RO_666 H, RL_666 H, RF_1261 H, RO_669 H, RL_669 H, zR_pE, zT_pE, zL_pE, zn_pE, zE_pE, zI_pE, zR_pI, zT_pI, zL_pI, zn_pI, zE_pI, zI_pI, c, zi_1024, nj, gj, lj, nk, gk, lk, e66, zi_one]
theorem w_messages {vs : Nat → List Prg} {now : Int32} {TX : List (Nat × Nat × Nat × Prg)} {K s : Nat} (hvs : vsOK vs) (hdg : vsDg vs) (hK : K ≤ 1600) (hs : s < 4) {h : Hp} {W : Wld} (R : RW vs now TX K h W) (lt : ltAt h vs TX) (hl : shL (W s) ≠ -1) : ∃ h1, f_X11_messages 616 (nI s) h = some h1 ∧ RW vs now TX K h1 (wdAll vs now s W) ∧ frx (fun a j => wdF (totQ W) a j ∨ a = 669) h h1 := by
  obtain ⟨G, tb, bs⟩ := R.base hK
  have H := G.1
  obtain ⟨pl1, pl2, pl3, ob⟩ := R.places hK hs hl
  have nx : (nI s).toNatClampNeg = s := zi_nat (by omega)
  have gx : ¬ nI s < 0 := zi_neg (by omega)
  have lx : ¬ 4 ≤ s := by omega
  have e65 := ob.1
  obtain ⟨h1, a1, a2, a3⟩ := w_messages_9 hs (shO (W s)).length 0 fz h H ob (by omega) (fz_big (by omega)) (fun x y hx => absurd hx (Nat.not_lt_zero _))
  have hS : ∀ a j : Nat, a = 669 → asd a j := fun a j z => Or.inr (Or.inl z)
  have en : zI h1 1201 616 = now := by rw [a2.2.2.1 1201 (by omega)]; exact G.2.2.1
  have R1 := R.off a2 hS en
  have hlen : ((shO (W s)).map (fun m => m.1)).length = (shO (W s)).length := List.length_map ..
  obtain ⟨h2, b1, b2, b3⟩ := w_messages_40 (tn := (shO (W s)).map (fun m => m.1)) hvs hdg hK hs (by rw [hlen]; exact pl3) (fun p hp => by
    obtain ⟨m, hm, e⟩ := List.mem_map.mp hp
    rw [← e]; exact pl1 m hm) (shO (W s)).length 0 fz h1 W R1 (lt.off a2 hS) (fun x p hx => by
    rw [List.getElem?_map] at hx
    cases hz : (shO (W s))[x]? with
    | none => rw [hz] at hx; cases hx
    | some y =>
      rw [hz] at hx
      have hx : y.1 = p := Option.some.inj hx
      rw [← hx]; exact a3 x y hz) (by rw [hlen]; omega) (fz_big (by omega))
  rw [hlen] at b1
  rw [List.drop_zero] at b2
  refine ⟨h2, ?_, b2, (a2.mono (fun a j z => Or.inr z)).trans (b3.mono (fun a j z => Or.inl z))⟩
  have e1 : f_X11_messages_9 fz 616 (nI s) (nI (shO (W s)).length) 0 h = some h2 := (congrArg (fun z => f_X11_messages_9 fz 616 (nI s) (nI (shO (W s)).length) z h) zi_zero).trans (a1.trans ((congrArg (fun z => f_X11_messages_40 fz 616 (nI s) (nI (shO (W s)).length) z h1) zi_zero).trans b1))
  simp only [f_X11_messages, o10, o00, bh, isO, inR, ck_true, bind_some9, Nat.reduceLeDiff, Nat.reduceEqDiff, and_self, and_true, true_and, false_and, and_false, not_false_eq_true, not_true_eq_false, or_self, or_false, false_or, if_true, if_false, reduceIte, RF_o H, RF_1257 H, RO_665 H, RL_665 H, zR_pE, zT_pE, zL_pE, zn_pE, zE_pE, zI_pE, zR_pI, zT_pI, zL_pI, zn_pI, zE_pI, zI_pI, nx, gx, lx, e65, e1]
/-! THE REFERENCE BETWEEN CALLS -/
theorem le00 : ((0 : Int32) ≤ 0) = True := eq_true (by decide)
def tpS (a j : Nat) : Prop := wdF 0 a j ∨ a = 669 ∨ (a = 616 ∧ (j = 1200 ∨ j = 1201 ∨ j = 1202))
theorem wdF_tp {N : Nat} : ∀ a j, wdF N a j → tpS a j := fun a j z => Or.inl (wdF_le (Nat.zero_le N) a j z)
def RT (vs : Nat → List Prg) (c : Nat) (TX : List (Nat × Nat × Nat × Prg)) (K tk : Nat) (h : Hp) (W : Wld) : Prop := RW vs (nI c) TX K h W ∧ ltAt h vs TX ∧ WdT tk W ∧ zI h 1202 616 = nI tk
theorem tpS_not {a j : Nat} (h : a < 616 ∨ a = 617 ∨ a = 622 ∨ a = 623 ∨ a = 631 ∨ a = 632 ∨ 670 < a) : ¬ tpS a j := fun z => by
  rcases z with z | z | z
  · rcases z with ⟨s, -, z⟩ | z
    · unfold shS at z; omega
    · unfold shX at z; omega
  · omega
  · omega
theorem ltAt.tp {vs : Nat → List Prg} {TX : List (Nat × Nat × Nat × Prg)} {h h1 : Hp} (l : ltAt h vs TX) (f : frx tpS h h1) : ltAt h1 vs TX := fun p hp => by
  rw [f.2.2.2 622 p (tpS_not (by omega))]
  exact l p hp
theorem wdF_fld {N j : Nat} (h : j = 1200 ∨ j = 1201 ∨ j = 1202) : ¬ wdF N 616 j := fun z => by
  rcases z with ⟨s, -, z⟩ | z
  · unfold shS at z; omega
  · unfold shX at z; omega
theorem w_tick_47s {K23 : Nat → Int32 → Int32 → Hp → Option (Int32 × Hp)} {s fuel : Nat} {l1 l2 : Int32} {h h1 : Hp} (H : RF h) (hs : s < 4) (e : f_X11_timers 616 (nI s) h = some h1) : f_X11_tick_47 K23 (fuel + 1) 616 l1 l2 (nI s) h = f_X11_tick_47 K23 fuel 616 l1 l2 (nI (s + 1)) h1 := by
  have c : ¬ (4 : Int32) ≤ nI s := zi_le0 (a := 4) (by omega) (by omega) (by omega)
  simp only [f_X11_tick_47, o10, o00, bh, isO, inR, ck_true, bind_some9, Nat.reduceLeDiff, Nat.reduceEqDiff, and_self, and_true, true_and, false_and, and_false, not_false_eq_true, not_true_eq_false, or_self, or_false, false_or, if_true, if_false, reduceIte, RF_o H, zR_pE, zT_pE, zL_pE, zn_pE, zE_pE, zI_pE, zR_pI, zT_pI, zL_pI, zn_pI, zE_pI, zI_pI, c, e, zi_one]
theorem w_tick_65s {K23 : Nat → Int32 → Int32 → Hp → Option (Int32 × Hp)} {s fuel : Nat} {l1 l2 : Int32} {h h1 : Hp} (H : RF h) (hs : s < 4) (e : if zE h 645 s = -1 then h1 = h else f_X11_messages 616 (nI s) h = some h1) : f_X11_tick_65 K23 (fuel + 1) 616 l1 l2 (nI s) h = f_X11_tick_65 K23 fuel 616 l1 l2 (nI (s + 1)) h1 := by
  have c : ¬ (4 : Int32) ≤ nI s := zi_le0 (a := 4) (by omega) (by omega) (by omega)
  have nx : (nI s).toNatClampNeg = s := zi_nat (by omega)
  have gx : ¬ nI s < 0 := zi_neg (by omega)
  have lx : ¬ 4 ≤ s := by omega
  by_cases d : zE h 645 s = -1
  · rw [if_pos d] at e
    rw [e]
    have d := eq_true d
    simp only [f_X11_tick_65, f_X11_tick_85, o10, o00, bh, isO, inR, ck_true, bind_some9, Nat.reduceLeDiff, Nat.reduceEqDiff, and_self, and_true, true_and, false_and, and_false, not_false_eq_true, not_true_eq_false, or_self, or_false, false_or, if_true, if_false, reduceIte, RF_o H, RF_1237 H, RO_645 H, RL_645 H, zR_pE, zT_pE, zL_pE, zn_pE, zE_pE, zI_pE, zR_pI, zT_pI, zL_pI, zn_pI, zE_pI, zI_pI, nx, gx, lx, c, d, zi_one]
  · rw [if_neg d] at e
    have d := eq_false d
    simp only [f_X11_tick_65, f_X11_tick_85, o10, o00, bh, isO, inR, ck_true, bind_some9, Nat.reduceLeDiff, Nat.reduceEqDiff, and_self, and_true, true_and, false_and, and_false, not_false_eq_true, not_true_eq_false, or_self, or_false, false_or, if_true, if_false, reduceIte, RF_o H, RF_1237 H, RO_645 H, RL_645 H, zR_pE, zT_pE, zL_pE, zn_pE, zE_pE, zI_pE, zR_pI, zT_pI, zL_pI, zn_pI, zE_pI, zI_pI, nx, gx, lx, c, d, e, zi_one]
theorem wdAll_off {vs : Nat → List Prg} {now : Int32} {s : Nat} {W : Wld} (hl : shL (W s) = -1) : wdAll vs now s W = W := by
  unfold wdAll
  cases (shO (W s)).map (fun m => m.1) with
  | nil => rfl
  | cons p ps =>
    show (if shL (W s) = -1 then W else _) = W
    rw [if_pos hl]
theorem upf4 (W : Wld) (f : Shd → Shd) : upf (upf (upf (upf W 0 (f (W 0))) 1 (f (upf W 0 (f (W 0)) 1))) 2 (f (upf (upf W 0 (f (W 0))) 1 (f (upf W 0 (f (W 0)) 1)) 2))) 3 (f (upf (upf (upf W 0 (f (W 0))) 1 (f (upf W 0 (f (W 0)) 1))) 2 (f (upf (upf W 0 (f (W 0))) 1 (f (upf W 0 (f (W 0)) 1)) 2)) 3)) = fun s => if s < 4 then f (W s) else W s := by
  funext s
  unfold upf
  by_cases c3 : s = 3
  · rw [if_pos c3, if_neg (by decide), if_neg (by decide), if_neg (by decide), if_pos (by omega), c3]
  · rw [if_neg c3]
    by_cases c2 : s = 2
    · rw [if_pos c2, if_neg (by decide), if_neg (by decide), if_pos (by omega), c2]
    · rw [if_neg c2]
      by_cases c1 : s = 1
      · rw [if_pos c1, if_neg (by decide), if_pos (by omega), c1]
      · rw [if_neg c1]
        by_cases c0 : s = 0
        · rw [if_pos c0, if_pos (by omega), c0]
        · rw [if_neg c0, if_neg (by omega)]
/-- one tick, behind the clock's step -/
theorem w_tick_one {vs : Nat → List Prg} {TX : List (Nat × Nat × Nat × Prg)} {K c tk : Nat} (hvs : vsOK vs) (hdg : vsDg vs) (hK : K ≤ 1600) (htk : tk < 1000000) {h : Hp} {W : Wld} (R : RW vs (nI c) TX K h W) (lt : ltAt h vs TX) (T : WdT tk W) (K23 : Nat → Int32 → Int32 → Hp → Option (Int32 × Hp)) (l1 l2 : Int32) : ∃ h1, f_X11_tick_47 K23 fz 616 l1 l2 0 h = K23 616 l1 (l2 + 1) h1 ∧ RW vs (nI c) TX K h1 (wdTick vs (nI c) W) ∧ ltAt h1 vs TX ∧ WdT tk (wdTick vs (nI c) W) ∧ frx (fun a j => wdF 0 a j ∨ a = 669) h h1 := by
  have WS := R.S
  have g0 : WdG vs false W (wdTimes vs (nI c) W) := (wdTimes_G (nI c) W).less
  obtain ⟨C, RC, RC2, RC3⟩ := R 0 (by decide)
  have tm : ∀ (s : Nat) (h : Hp) (W : Wld), s < 4 → RW vs (nI c) TX K h W → WdT tk W → ltAt h vs TX → ∃ h1, f_X11_timers 616 (nI s) h = some h1 ∧ RW vs (nI c) TX K h1 (upf W s (shTime vs (nI c) (W s))) ∧ WdT tk (upf W s (shTime vs (nI c) (W s))) ∧ ltAt h1 vs TX ∧ frx (wdF 0) h h1 := fun s h W hs R T lt => by
    obtain ⟨h1, a1, a2, a3⟩ := w_timers hK hs htk R T
    obtain ⟨C, RC, RC2, RC3⟩ := R s hs
    obtain ⟨E, -, gr⟩ := shTime_S (nI c) ⟨RC.2.1.1, RC2, RC3⟩
    exact ⟨h1, a1, a2, WdT_up (vs := vs) T gr.2.2.2.2.2.2, lt.on a3, a3.mono (wdF_le (Nat.zero_le _))⟩
  obtain ⟨h1, a1, a2, a3, a4, a5⟩ := tm 0 h W (by decide) R T lt
  obtain ⟨h2, b1, b2, b3, b4, b5⟩ := tm 1 h1 _ (by decide) a2 a3 a4
  obtain ⟨h3, c1, c2, c3, c4, c5⟩ := tm 2 h2 _ (by decide) b2 b3 b4
  obtain ⟨h4, d1, d2, d3, d4, d5⟩ := tm 3 h3 _ (by decide) c2 c3 c4
  have H : ∀ {h : Hp} {W : Wld}, RW vs (nI c) TX K h W → RF h := fun R => (R.base hK).1.1
  have eT := upf4 W (shTime vs (nI c))
  have eT : _ = wdTimes vs (nI c) W := eT
  rw [eT] at d2 d3
  have ms : ∀ (s : Nat) (h : Hp) (W : Wld), s < 4 → RW vs (nI c) TX K h W → WdT tk W → ltAt h vs TX → ∃ h1, (if zE h 645 s = -1 then h1 = h else f_X11_messages 616 (nI s) h = some h1) ∧ RW vs (nI c) TX K h1 (wdAll vs (nI c) s W) ∧ WdT tk (wdAll vs (nI c) s W) ∧ ltAt h1 vs TX ∧ frx (fun a j => wdF 0 a j ∨ a = 669) h h1 := fun s h W hs R T lt => by
    have b := ((R.base hK).2.2 s hs).1
    by_cases cl : shL (W s) = -1
    · refine ⟨h, by rw [if_pos (b.trans cl)], ?_⟩
      rw [wdAll_off cl]
      exact ⟨R, T, lt, frx.rf h⟩
    · obtain ⟨h1, a1, a2, a3⟩ := w_messages hvs hdg hK hs R lt cl
      have gg := wdAll_G hvs hdg (nI c) hs (by omega : K ≤ 10000) R.S
      have a4 : frx (fun a j => wdF 0 a j ∨ a = 669) h h1 := a3.mono (fun a j z => z.elim (fun z => Or.inl (wdF_le (Nat.zero_le _) a j z)) Or.inr)
      refine ⟨h1, by rw [if_neg (fun z => cl (b.symm.trans z))]; exact a1, a2, gg.t R.S T, fun p hp => ?_, a4⟩
      rw [a4.2.2.2 622 p (fun z => z.elim (wdF_not (by omega)) (by omega))]
      exact lt p hp
  obtain ⟨i1, p1, p2, p3, p4, p5⟩ := ms 0 h4 _ (by decide) d2 d3 d4
  obtain ⟨i2, q1, q2, q3, q4, q5⟩ := ms 1 i1 _ (by decide) p2 p3 p4
  obtain ⟨i3, r1, r2, r3, r4, r5⟩ := ms 2 i2 _ (by decide) q2 q3 q4
  obtain ⟨i4, s1, s2, s3, s4, s5⟩ := ms 3 i3 _ (by decide) r2 r3 r4
  refine ⟨i4, ?_, s2, s4, s3, ((((a5.trans b5).trans (c5.trans d5)).mono (fun a j z => Or.inl z)).trans (p5.trans q5)).trans (r5.trans s5)⟩
  obtain ⟨f, hf⟩ : ∃ f, fz = f + 5 := ⟨999995, rfl⟩
  have step1 : f_X11_tick_47 K23 (f + 5) 616 l1 l2 (nI 0) h = f_X11_tick_65 K23 (f + 5) 616 l1 l2 (nI 0) h4 := by
    rw [w_tick_47s (fuel := f + 4) (H R) (by decide) a1, w_tick_47s (fuel := f + 3) (H a2) (by decide) b1, w_tick_47s (fuel := f + 2) (H b2) (by decide) c1, w_tick_47s (fuel := f + 1) (H c2) (by decide) d1]
    conv => lhs; unfold f_X11_tick_47
    rw [if_pos (show (4 : Int32) ≤ nI 4 by decide), hf]
    rfl
  have step2 : f_X11_tick_65 K23 (f + 5) 616 l1 l2 (nI 0) h4 = K23 616 l1 (l2 + 1) i4 := by
    rw [w_tick_65s (fuel := f + 4) (H d2) (by decide) p1, w_tick_65s (fuel := f + 3) (H p2) (by decide) q1, w_tick_65s (fuel := f + 2) (H q2) (by decide) r1, w_tick_65s (fuel := f + 1) (H r2) (by decide) s1]
    conv => lhs; unfold f_X11_tick_65
    rw [if_pos (show (4 : Int32) ≤ nI 4 by decide)]
    rfl
  rw [hf]
  exact (congrArg (fun z => f_X11_tick_47 K23 (f + 5) 616 l1 l2 z h) zi_zero).trans (step1.trans step2)
theorem w_tick_23 {vs : Nat → List Prg} {TX : List (Nat × Nat × Nat × Prg)} {K tk n : Nat} (hvs : vsOK vs) (hdg : vsDg vs) (hK : K ≤ 1600) (htk : tk < 1000000) (hn : n ≤ 500) : ∀ (m k c fuel : Nat) (h : Hp) (W : Wld), RT vs c TX K tk h W → zI h 1200 616 = 0 → k + m = n → m < fuel → ∃ h1, f_X11_tick_23 fuel 616 (nI n) (nI k) h = some (nI (c + m), h1) ∧ zI h1 1200 616 = 0 ∧ RT vs (c + m) TX K tk h1 (wdTicks vs m c W) ∧ frx tpS h h1
  | m, k, c, 0, h, W, _, _, _, hf => absurd hf (Nat.not_lt_zero _)
  | 0, k, c, fuel + 1, h, W, R, e0, hk, hf => by
    have H := (R.1.base hK).1.1
    have en := (R.1.base hK).1.2.2.1
    have c1 : nI n ≤ nI k := (zi_le (by omega) (by omega)).mpr (by omega)
    refine ⟨h, ?_, e0, R, frx.rf h⟩
    simp only [f_X11_tick_23, o10, o00, bh, isO, inR, ck_true, bind_some9, Nat.reduceLeDiff, Nat.reduceEqDiff, and_self, and_true, true_and, false_and, and_false, not_false_eq_true, not_true_eq_false, or_self, or_false, false_or, if_true, if_false, reduceIte, RF_o H, zR_pE, zT_pE, zL_pE, zn_pE, zE_pE, zI_pE, zR_pI, zT_pI, zL_pI, zn_pI, zE_pI, zI_pI, c1, e0, le00, en]
    rfl
  | m + 1, k, c, fuel + 1, h, W, R, e0, hk, hf => by
    obtain ⟨R1, lt, T, etk⟩ := R
    have H := (R1.base hK).1.1
    have en := (R1.base hK).1.2.2.1
    have c1 : ¬ nI n ≤ nI k := zi_le0 (by omega) (by omega) (by omega)
    have f0 : frx tpS h (pI h 1201 616 (nI (c + 1))) := frx_pI (Or.inr (Or.inr ⟨rfl, by omega⟩))
    have f0' : frx (fun a j => a = 616 ∧ j = 1201) h (pI h 1201 616 (nI (c + 1))) := frx_pI ⟨rfl, rfl⟩
    have hS : ∀ a j, (a = 616 ∧ j = 1201) → asd a j := fun a j z => Or.inl ⟨z.1, by omega⟩
    obtain ⟨h1, a1, a2, a3, a4, a5⟩ := w_tick_one hvs hdg hK htk (R1.off f0' hS (now1 := nI (c + 1)) (by rw [zI_pI, if_pos ⟨rfl, rfl⟩])) (lt.off f0' hS) T (f_X11_tick_23 fuel) (nI n) (nI k)
    have hne : ∀ j, (j = 1200 ∨ j = 1202) → zI h1 j 616 = zI h j 616 := fun j hj => by
      rw [a5.2.2.1 j (fun z => z.elim (wdF_fld (by omega)) (by omega)), zI_pI, if_neg (by omega)]
    obtain ⟨h2, b1, b2, b3, b4⟩ := w_tick_23 hvs hdg hK htk hn m (k + 1) (c + 1) fuel h1 _ ⟨a2, a3, a4, by rw [hne 1202 (by omega)]; exact etk⟩ (by rw [hne 1200 (by omega)]; exact e0) (by omega) (by omega)
    rw [show c + 1 + m = c + (m + 1) by omega] at b1 b3
    refine ⟨h2, ?_, b2, b3, (f0.trans (a5.mono (fun a j z => z.elim (fun z => Or.inl z) (fun z => Or.inr (Or.inl z))))).trans b4⟩
    rw [zi_one] at a1
    rw [← b1, ← a1]
    simp only [f_X11_tick_23, o10, o00, bh, isO, inR, ck_true, bind_some9, Nat.reduceLeDiff, Nat.reduceEqDiff, and_self, and_true, true_and, false_and, and_false, not_false_eq_true, not_true_eq_false, or_self, or_false, false_or, if_true, if_false, reduceIte, RF_o H, zR_pE, zT_pE, zL_pE, zn_pE, zE_pE, zI_pE, zR_pI, zT_pI, zL_pI, zn_pI, zE_pI, zI_pI, c1, e0, en, zi_one]
