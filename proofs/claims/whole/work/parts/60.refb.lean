/-! ALL MESSAGES OF A LOG, and those that are gone -/
def bkMs (b : Bk) (r : Rec) : List (Nat × Nat × Nat) := if rcK r = 0 ∨ 12 < rcK r then [] else if bkMsg (bkF b (rcN r)) (rcK r) = true then [(bkP b, rcN r, (bkF b (rcN r)).length)] else []
def lgQ (L : List Rec) : Bk × List (Nat × Nat × Nat) := L.foldl (fun x r => (bkStep x.1 r, x.2 ++ bkMs x.1 r)) (bk0, [])
theorem lgQ_1 (L : List Rec) : (lgQ L).1 = lgB L := by
  generalize hn : L.length = n
  induction n generalizing L with
  | zero => rw [List.length_eq_zero_iff] at hn; rw [hn]; rfl
  | succ n ih =>
    rcases lg_cases L with e | ⟨A, r, e⟩
    · rw [e] at hn; cases hn
    · rw [e] at hn ⊢
      rw [lgB_snoc, ← ih A (by rw [List.length_append] at hn; simpa using hn)]
      unfold lgQ
      rw [List.foldl_append]
      rfl
theorem lgQ_snoc (L : List Rec) (r : Rec) : (lgQ (L ++ [r])).2 = (lgQ L).2 ++ bkMs (lgB L) r := by
  rw [← lgQ_1]
  unfold lgQ
  rw [List.foldl_append]
  rfl
/-- a GONE of the message at p is in the log -/
def gnB (L : List Rec) (p : Nat) : Bool := L.any (fun r => decide (rcK r = 14) && decide (rcA r = nI p))
theorem gnB_snoc (L : List Rec) (r : Rec) (p : Nat) : gnB (L ++ [r]) p = (gnB L p || (decide (rcK r = 14) && decide (rcA r = nI p))) := by
  unfold gnB
  rw [List.any_append]
  simp
theorem gone_lt {vs : Nat → List Prg} {L : List Rec} (h : lgV vs L) {r : Rec} (hr : r ∈ L) (hk : rcK r = 14) : ∃ p, p < L.length ∧ rcA r = nI p := by
  obtain ⟨i, hi⟩ := List.getElem?_of_mem hr
  have hl := (List.getElem?_eq_some_iff.mp hi).1
  have pre : L.take i ++ [r] <+: L := by
    have e : L.take i ++ [r] = L.take (i + 1) := by rw [List.take_add_one, hi]; rfl
    rw [e]; exact List.take_prefix _ _
  rcases h _ r pre with ⟨q, -⟩ | ⟨q, -⟩ | ⟨-, -, p, -, q1, q2⟩ | ⟨q, -⟩ | ⟨-, q, -⟩
  · omega
  · omega
  · rw [lgB_place, List.length_take] at q1
    exact ⟨p, by omega, q2⟩
  · omega
  · omega
theorem bkO_msgs {vs : Nat → List Prg} {L : List Rec} (h : lgV vs L) (hl : L.length < 2147483648) : bkO (lgB L) = (lgQ L).2.filter (fun m => !gnB L m.1) ∧ ∀ m ∈ (lgQ L).2, m.1 < L.length := by
  generalize hn : L.length = n
  induction n generalizing L with
  | zero =>
    rw [List.length_eq_zero_iff] at hn
    rw [hn]
    exact ⟨rfl, fun m hm => (nomatch hm)⟩
  | succ n ih =>
    rcases lg_cases L with e | ⟨A, r, e⟩
    · rw [e] at hn; cases hn
    · rw [e] at h hn hl ⊢
      obtain ⟨h1, h2⟩ := lgV_last h
      have hA : A.length = n := by rw [List.length_append] at hn; simpa using hn
      obtain ⟨i1, i2⟩ := ih h1 (by omega) hA
      rw [lgB_snoc, lgQ_snoc]
      have fresh : gnB A A.length = false := by
        unfold gnB
        rw [List.any_eq_false]
        intro x hx
        by_cases c : rcK x = 14
        · obtain ⟨p, p1, p2⟩ := gone_lt h1 hx c
          have : ¬ rcA x = nI A.length := fun q => by
            rw [p2] at q
            have := (zi_eq (by omega) (by omega)).mp q
            omega
          simp [this]
        · simp [c]
      have pl := lgB_place A
      have mem : ∀ m ∈ (lgQ A).2 ++ bkMs (lgB A) r, m.1 < n + 1 := fun m hm => by
        rcases List.mem_append.mp hm with hm | hm
        · have := i2 m hm; omega
        · unfold bkMs at hm
          split at hm
          · cases hm
          · split at hm
            · rw [List.mem_singleton] at hm
              rw [hm]
              show bkP (lgB A) < n + 1
              omega
            · cases hm
      refine ⟨?_, mem⟩
      by_cases c14 : rcK r = 14
      · have e1 : bkO (bkStep (lgB A) r) = (bkO (lgB A)).filter (fun m => Int32.ofNat m.1 ≠ rcA r) := by unfold bkStep; rw [if_neg (by omega), if_pos c14]
        have e2 : bkMs (lgB A) r = [] := by unfold bkMs; rw [if_pos (by omega)]
        rw [e1, e2, List.append_nil, i1, List.filter_filter]
        refine List.filter_congr (fun m _ => ?_)
        rw [gnB_snoc]
        have : (Int32.ofNat m.1 = rcA r) ↔ (rcA r = nI m.1) := ⟨fun q => q.symm, fun q => q.symm⟩
        by_cases cq : rcA r = nI m.1
        · have cq2 := this.mpr cq
          simp [c14, cq2, cq]
        · have cq2 : ¬ Int32.ofNat m.1 = rcA r := fun q => cq (this.mp q)
          simp [c14, cq, cq2]
      · have gs : ∀ p, gnB (A ++ [r]) p = gnB A p := fun p => by rw [gnB_snoc]; simp [c14]
        have eo : bkO (bkStep (lgB A) r) = bkO (lgB A) ++ bkMs (lgB A) r := by
          unfold bkStep bkMs
          by_cases c0 : rcK r = 0
          · rw [if_pos c0, if_pos (Or.inl c0)]; simp
          · rw [if_neg c0, if_neg c14]
            by_cases c13 : rcK r = 15 ∨ rcK r = 13
            · rw [if_pos c13, if_pos (by omega)]; simp
            · have le12 : ¬ (rcK r = 0 ∨ 12 < rcK r) := by
                rcases h2 with ⟨q, -⟩ | ⟨q, -⟩ | ⟨q, -⟩ | ⟨q, -⟩ | ⟨q1, q2, -⟩ <;> omega
              rw [if_neg c13, if_neg le12]
              show (if _ then _ else _) = _
              split
              · rfl
              · simp
        rw [eo, i1, List.filter_append]
        congr 1
        · exact List.filter_congr (fun m _ => by rw [gs])
        · symm
          rw [List.filter_eq_self]
          intro m hm
          unfold bkMs at hm
          split at hm
          · cases hm
          · split at hm
            · rw [List.mem_singleton] at hm
              rw [gs, hm]
              show (!gnB A (bkP (lgB A))) = true
              rw [pl, fresh]
              rfl
            · cases hm
/-- what the reference has read of a log L, as far as A -/
def rdAt (h : Hp) (N s : Nat) (EE : Nat → List Nat) (L A : List Rec) (g : Shd) : Prop := (zE h 647 s = nI (shN g) ∧ shN g ≤ 16) ∧ (∀ n, n < 16 → zE h 660 (16 * s + n) = 0) ∧ (∀ n, n < 16 → evsAt h N (16 * s + n) (EE n) (bkF (lgB A) n)) ∧ (∀ n, n < shN g → hasW (flE (shF g n)) → zE h 664 (16 * s + n) = (flT (shF g n)).2.2.1 ∧ zE h 661 (16 * s + n) = (flT (shF g n)).2.2.2.1) ∧ obAt h s ((lgQ A).2.filter (fun m => !gnB L m.1))
def gnAt (h : Hp) (L : List Rec) : Prop := ∀ p, p < L.length → zE h 670 p = if gnB L p = true then 1 else 0
/-! READING A RECORD -/
def rdS (s : Nat) (a j : Nat) : Prop := (a = 647 ∧ j = s) ∨ (a = 648 ∧ j / 960 = s) ∨ ((a = 649 ∨ a = 661 ∨ a = 664) ∧ j / 16 = s) ∨ (a = 665 ∧ j = s) ∨ ((a = 666 ∨ a = 667 ∨ a = 668) ∧ j / 1024 = s)
theorem kpS_rd {s n L M : Nat} (hn : n < 16) (hL : L < 60) (hM : M < 1024) : ∀ a j, kpS (16 * s + n) s L M a j → rdS s a j := fun a j q => by
  unfold kpS at q
  rcases q with q | q | q | q
  · exact Or.inr (Or.inl (by omega))
  · exact Or.inr (Or.inr (Or.inl (by omega)))
  · exact Or.inr (Or.inr (Or.inr (Or.inl (by omega))))
  · exact Or.inr (Or.inr (Or.inr (Or.inr (by omega))))
def h91 (h : Hp) (w K : Nat) (now a b : Int32) : Hp := if K = 15 then pE (pE h 664 w a) 661 w (if now < b then b else now) else h
theorem w_reads_91 {h : Hp} (H : RF h) {i w K : Nat} {now a b : Int32} (hi : i < 60000) (hw : w < 64) (hK : K < 16) (ea : zE h 635 i = a) (eb : zE h 636 i = b) (en : zI h 1201 616 = now) : f_X11_reads_91 616 (nI i) (nI w) (nI K) h = some (h91 h w K now a b) := by
  have nw : (nI w).toNatClampNeg = w := zi_nat (by omega)
  have gw : ¬ nI w < 0 := zi_neg (by omega)
  have lw : ¬ 64 ≤ w := by omega
  have ni : (nI i).toNatClampNeg = i := zi_nat (by omega)
  have gi : ¬ nI i < 0 := zi_neg (by omega)
  have li : ¬ 60000 ≤ i := by omega
  have k15 : nI K = (15 : Int32) ↔ K = 15 := zi_eq (b := 15) (by omega) (by omega)
  unfold h91
  by_cases c : K = 15
  · have d := eq_true (k15.mpr c)
    rw [if_pos c]
    by_cases cb : now < b
    · have cb2 : ¬ b ≤ now := Int32.not_le.mpr cb
      rw [if_pos cb]
      simp only [f_X11_reads_91, o10, o00, bh, isO, inR, ck_true, bind_some9, Nat.reduceLeDiff, Nat.reduceEqDiff, and_self, and_true, true_and, false_and, and_false, not_false_eq_true, not_true_eq_false, or_self, or_false, false_or, if_true, if_false, reduceIte, RF_o H, RF_1227 H, RO_635 H, RL_635 H, RF_1228 H, RO_636 H, RL_636 H, RF_1253 H, RO_661 H, RL_661 H, RF_1256 H, RO_664 H, RL_664 H, zR_pE, zT_pE, zL_pE, zn_pE, zE_pE, zI_pE, zR_pI, zT_pI, zL_pI, zn_pI, zE_pI, zI_pI, d, nw, gw, lw, ni, gi, li, ea, eb, en, cb2]
    · have cb2 : b ≤ now := Int32.not_lt.mp cb
      rw [if_neg cb]
      simp only [f_X11_reads_91, o10, o00, bh, isO, inR, ck_true, bind_some9, Nat.reduceLeDiff, Nat.reduceEqDiff, and_self, and_true, true_and, false_and, and_false, not_false_eq_true, not_true_eq_false, or_self, or_false, false_or, if_true, if_false, reduceIte, RF_o H, RF_1227 H, RO_635 H, RL_635 H, RF_1228 H, RO_636 H, RL_636 H, RF_1253 H, RO_661 H, RL_661 H, RF_1256 H, RO_664 H, RL_664 H, zR_pE, zT_pE, zL_pE, zn_pE, zE_pE, zI_pE, zR_pI, zT_pI, zL_pI, zn_pI, zE_pI, zI_pI, d, nw, gw, lw, ni, gi, li, ea, eb, en, cb2]
  · have d := eq_false (fun z => c (k15.mp z))
    rw [if_neg c]
    simp only [f_X11_reads_91, o10, o00, bh, isO, inR, ck_true, bind_some9, Nat.reduceLeDiff, Nat.reduceEqDiff, and_self, and_true, true_and, false_and, and_false, not_false_eq_true, not_true_eq_false, or_self, or_false, false_or, if_true, if_false, reduceIte, RF_o H, RF_1227 H, RO_635 H, RL_635 H, RF_1228 H, RO_636 H, RL_636 H, RF_1253 H, RO_661 H, RL_661 H, RF_1256 H, RO_664 H, RL_664 H, zR_pE, zT_pE, zL_pE, zn_pE, zE_pE, zI_pE, zR_pI, zT_pI, zL_pI, zn_pI, zE_pI, zI_pI, d]
def h66 (h : Hp) (w K : Nat) (now : Int32) : Hp := if K = 1 then pE (pE h 664 w 1) 661 w now else h
theorem w_reads_66 {h : Hp} (H : RF h) {i w K : Nat} {now a b : Int32} (hi : i < 60000) (hw : w < 64) (hK : K < 16) (ea : zE h 635 i = a) (eb : zE h 636 i = b) (en : zI h 1201 616 = now) : f_X11_reads_66 616 (nI i) (nI w) (nI K) h = some (h91 (h66 h w K now) w K now a b) := by
  have nw : (nI w).toNatClampNeg = w := zi_nat (by omega)
  have gw : ¬ nI w < 0 := zi_neg (by omega)
  have lw : ¬ 64 ≤ w := by omega
  have k1 : nI K = (1 : Int32) ↔ K = 1 := zi_eq (b := 1) (by omega) (by omega)
  unfold h66
  by_cases c : K = 1
  · have d := eq_true (k1.mpr c)
    rw [if_pos c]
    have e := w_reads_91 (h := pE (pE h 664 w 1) 661 w now) (a := a) (b := b) (RF_pE (RF_pE H _ _ _) _ _ _) hi hw hK (by rw [zE_pE, if_neg (by omega), zE_pE, if_neg (by omega)]; exact ea) (by rw [zE_pE, if_neg (by omega), zE_pE, if_neg (by omega)]; exact eb) en
    simp only [f_X11_reads_66, o10, o00, bh, isO, inR, ck_true, bind_some9, Nat.reduceLeDiff, Nat.reduceEqDiff, and_self, and_true, true_and, false_and, and_false, not_false_eq_true, not_true_eq_false, or_self, or_false, false_or, if_true, if_false, reduceIte, RF_o H, RF_1253 H, RO_661 H, RL_661 H, RF_1256 H, RO_664 H, RL_664 H, zR_pE, zT_pE, zL_pE, zn_pE, zE_pE, zI_pE, zR_pI, zT_pI, zL_pI, zn_pI, zE_pI, zI_pI, d, nw, gw, lw, en, e]
  · have d := eq_false (fun z => c (k1.mp z))
    rw [if_neg c]
    have e := w_reads_91 (a := a) (b := b) H hi hw hK ea eb en
    simp only [f_X11_reads_66, o10, o00, bh, isO, inR, ck_true, bind_some9, Nat.reduceLeDiff, Nat.reduceEqDiff, and_self, and_true, true_and, false_and, and_false, not_false_eq_true, not_true_eq_false, or_self, or_false, false_or, if_true, if_false, reduceIte, RF_o H, RF_1253 H, RO_661 H, RL_661 H, RF_1256 H, RO_664 H, RL_664 H, zR_pE, zT_pE, zL_pE, zn_pE, zE_pE, zI_pE, zR_pI, zT_pI, zL_pI, zn_pI, zE_pI, zI_pI, d, e]
theorem h91_fr (h : Hp) (w K : Nat) (now a b : Int32) : frx (fun x j => (x = 661 ∨ x = 664) ∧ j = w) h (h91 h w K now a b) := by
  unfold h91
  split
  · exact (frx_pE ⟨by omega, rfl⟩).trans (frx_pE ⟨by omega, rfl⟩)
  · exact frx.rf h
theorem h66_fr (h : Hp) (w K : Nat) (now : Int32) : frx (fun x j => (x = 661 ∨ x = 664) ∧ j = w) h (h66 h w K now) := by
  unfold h66
  split
  · exact (frx_pE ⟨by omega, rfl⟩).trans (frx_pE ⟨by omega, rfl⟩)
  · exact frx.rf h
/-- tries and since, when a record is read -/
theorem h9_val (h : Hp) (w K : Nat) (now a b : Int32) : zE (h91 (h66 h w K now) w K now a b) 664 w = (if K = 1 then 1 else if K = 15 then a else zE h 664 w) ∧ zE (h91 (h66 h w K now) w K now a b) 661 w = (if K = 1 then now else if K = 15 then (if now < b then b else now) else zE h 661 w) := by
  unfold h91 h66
  by_cases c1 : K = 1
  · rw [if_neg (show ¬ K = 15 by omega), if_pos c1, if_pos c1, if_pos c1]
    exact ⟨by rw [zE_pE, if_neg (by omega), zE_pE, if_pos ⟨rfl, rfl⟩], by rw [zE_pE, if_pos ⟨rfl, rfl⟩]⟩
  · by_cases c15 : K = 15
    · rw [if_pos c15, if_neg c1, if_neg c1, if_neg c1, if_pos c15, if_pos c15]
      exact ⟨by rw [zE_pE, if_neg (by omega), zE_pE, if_pos ⟨rfl, rfl⟩], by rw [zE_pE, if_pos ⟨rfl, rfl⟩]⟩
    · rw [if_neg c15, if_neg c1, if_neg c1, if_neg c1, if_neg c15, if_neg c15]
      exact ⟨rfl, rfl⟩
theorem h9_fr (h : Hp) (w K : Nat) (now a b : Int32) : frx (fun x j => (x = 661 ∨ x = 664) ∧ j = w) h (h91 (h66 h w K now) w K now a b) := (h66_fr h w K now).trans (h91_fr _ w K now a b)
/-- a record's way: the row is counted, the event is kept -/
theorem w_reads_0 {h : Hp} (H : RF h) {s n i K pl M : Nat} (hs : s < 4) (hn : n < 16) (hi : i < 60000) (hK : K < 16) (eh : zE h 633 i = nI (16 * n + K)) (eK : f_X11_kindOf 616 (nI i) h = some (nI K, h)) (em : zE h 647 s = nI M) : f_X11_reads 616 (nI s) (nI i) (nI pl) h = f_X11_reads_38 616 (nI i) (nI pl) (nI (16 * s + n)) (nI K) (if K = 0 then pE h 647 s (nI (M + 1)) else h) := by
  have nx : (nI s).toNatClampNeg = s := zi_nat (by omega)
  have gx : ¬ nI s < 0 := zi_neg (by omega)
  have lx : ¬ 4 ≤ s := by omega
  have ni : (nI i).toNatClampNeg = i := zi_nat (by omega)
  have gi : ¬ nI i < 0 := zi_neg (by omega)
  have li : ¬ 60000 ≤ i := by omega
  have ed : (16 : Int32) * nI s + nI (16 * n + K) / 16 = nI (16 * s + n) := by
    rw [show (16 : Int32) = nI 16 from rfl, zi_div (by omega) (by omega) (by omega), zi_mul, zi_add, show (16 * n + K) / 16 = n by omega]
  have k0 : nI K = (0 : Int32) ↔ K = 0 := zi_eq (b := 0) (by omega) (by omega)
  by_cases c : K = 0
  · have d := eq_true (k0.mpr c)
    rw [if_pos c]
    simp only [f_X11_reads, o10, o00, bh, isO, inR, ck_true, bind_some9, Nat.reduceLeDiff, Nat.reduceEqDiff, and_self, and_true, true_and, false_and, and_false, not_false_eq_true, not_true_eq_false, or_self, or_false, false_or, if_true, if_false, reduceIte, RF_o H, RF_1225 H, RO_633 H, RL_633 H, RF_1239 H, RO_647 H, RL_647 H, zR_pE, zT_pE, zL_pE, zn_pE, zE_pE, zI_pE, zR_pI, zT_pI, zL_pI, zn_pI, zE_pI, zI_pI, ni, gi, li, eh, ed, eK, d, nx, gx, lx, em, zi_one]
  · have d := eq_false (fun z => c (k0.mp z))
    rw [if_neg c]
    simp only [f_X11_reads, o10, o00, bh, isO, inR, ck_true, bind_some9, Nat.reduceLeDiff, Nat.reduceEqDiff, and_self, and_true, true_and, false_and, and_false, not_false_eq_true, not_true_eq_false, or_self, or_false, false_or, if_true, if_false, reduceIte, RF_o H, RF_1225 H, RO_633 H, RL_633 H, RF_1239 H, RO_647 H, RL_647 H, zR_pE, zT_pE, zL_pE, zn_pE, zE_pE, zI_pE, zR_pI, zT_pI, zL_pI, zn_pI, zE_pI, zI_pI, ni, gi, li, eh, ed, eK, d]
theorem w_reads_hi {h : Hp} (H : RF h) {i w K pl : Nat} {now a b : Int32} (hi : i < 60000) (hw : w < 64) (hK : K < 16) (h12 : 12 < K) (ea : zE h 635 i = a) (eb : zE h 636 i = b) (en : zI h 1201 616 = now) : f_X11_reads_38 616 (nI i) (nI pl) (nI w) (nI K) h = some (h91 (h66 h w K now) w K now a b) := by
  have k12 : (12 : Int32) < nI K := (zi_lt (a := 12) (by omega) (by omega)).mpr h12
  unfold f_X11_reads_38
  rw [if_pos k12]
  exact w_reads_66 H hi hw hK ea eb en
theorem w_reads_lo {h : Hp} (H : RF h) {s n i pl N t : Nat} {now : Int32} {E : List Nat} {es : List Evt} {e : Evt} {O : List (Nat × Nat × Nat)} (hs : s < 4) (hn : n < 16) (hN : N ≤ 60000) (hp : pl < 8192) (gn : Bool) (eg : zE h 670 pl = if gn = true then 1 else 0) (ev : evsAt h N (16 * s + n) E es) (hl : es.length < 60) (h0 : es = [] → e.1 = 0) (he : e.1 ≤ 12) (hi : idAt h N i (n, e.1, t, e.2.1, e.2.2.1, e.2.2.2)) (ob : obAt h s O) (hO : O.length < 1000) (en : zI h 1201 616 = now) :
    ∃ h1, f_X11_reads_38 616 (nI i) (nI pl) (nI (16 * s + n)) (nI e.1) h = some (h91 (h66 h1 (16 * s + n) e.1 now) (16 * s + n) e.1 now e.2.1 e.2.2.1) ∧ frx (kpS (16 * s + n) s es.length O.length) h h1 ∧ evsAt h1 N (16 * s + n) (E ++ [i]) (es ++ [e]) ∧ obAt h1 s (if bkMsg es e.1 = true then (if gn = true then O else O ++ [(pl, n, es.length)]) else O) := by
  have k12 : ¬ (12 : Int32) < nI e.1 := fun z => absurd ((zi_lt (a := 12) (by omega) (by omega)).mp z) (by omega)
  have np : (nI pl).toNatClampNeg = pl := zi_nat (by omega)
  have gp : ¬ nI pl < 0 := zi_neg (by omega)
  have lp : ¬ 8192 ≤ pl := by omega
  have hi6 : i < 60000 := by have := hi.1; omega
  obtain ⟨h1, e1, f1, ev1, ob1⟩ := w_keep (pl := if gn = true then none else some pl) H hs hn hN ev hl h0 (by omega) hi ob hO (fun p z => by
    cases gn with
    | false => have := Option.some.inj z; omega
    | true => cases z)
  have H1 := H.on f1
  have ea : zE h1 635 i = e.2.1 := by rw [f1.2.2.2 635 _ (by unfold kpS; omega)]; exact hi.2.2.2.1
  have eb : zE h1 636 i = e.2.2.1 := by rw [f1.2.2.2 636 _ (by unfold kpS; omega)]; exact hi.2.2.2.2.1
  have en1 : zI h1 1201 616 = now := by rw [f1.2.2.1 1201 (by unfold kpS; omega)]; exact en
  have e66 := w_reads_66 H1 hi6 (by omega : 16 * s + n < 64) (by omega : e.1 < 16) ea eb en1
  refine ⟨h1, ?_, f1, ev1, ?_⟩
  · unfold f_X11_reads_38
    rw [if_neg k12]
    cases gn with
    | false =>
      rw [if_neg (fun z => Bool.noConfusion z)] at eg
      have e1 : f_X11_keep 616 (nI (16 * s + n)) (nI i) (nI pl) h = some h1 := e1
      simp only [f_X11_reads_63, o10, o00, bh, isO, inR, ck_true, bind_some9, Nat.reduceLeDiff, Nat.reduceEqDiff, and_self, and_true, true_and, false_and, and_false, not_false_eq_true, not_true_eq_false, or_self, or_false, false_or, if_true, if_false, reduceIte, RF_o H, zR_pE, zT_pE, zL_pE, zn_pE, zE_pE, zI_pE, zR_pI, zT_pI, zL_pI, zn_pI, zE_pI, zI_pI, RF_1262 H, RO_670 H, RL_670 H, np, gp, lp, eg, e1, e66]
    | true =>
      rw [if_pos rfl] at eg
      have e1 : f_X11_keep 616 (nI (16 * s + n)) (nI i) (-1) h = some h1 := e1
      simp only [f_X11_reads_63, o10, o00, bh, isO, inR, ck_true, bind_some9, Nat.reduceLeDiff, Nat.reduceEqDiff, and_self, and_true, true_and, false_and, and_false, not_false_eq_true, not_true_eq_false, or_self, or_false, false_or, if_true, if_false, reduceIte, RF_o H, zR_pE, zT_pE, zL_pE, zn_pE, zE_pE, zI_pE, zR_pI, zT_pI, zL_pI, zn_pI, zE_pI, zI_pI, RF_1262 H, RO_670 H, RL_670 H, np, gp, lp, eg, e1, e66]
  · cases gn with
    | false => exact ob1
    | true => exact ob1
theorem lgQ_len {vs : Nat → List Prg} {L : List Rec} (h : lgV vs L) : (lgQ L).2.length ≤ 960 := by
  have key : (lgQ L).2.length ≤ evC L := by
    generalize hn : L.length = n
    induction n generalizing L with
    | zero =>
      rw [List.length_eq_zero_iff] at hn
      rw [hn]; exact Nat.le_refl _
    | succ n ih =>
      rcases lg_cases L with e | ⟨A, r, e⟩
      · rw [e] at hn; cases hn
      · rw [e] at h hn ⊢
        obtain ⟨h1, h2⟩ := lgV_last h
        have := ih h1 (by rw [List.length_append] at hn; simpa using hn)
        rw [lgQ_snoc, evC_snoc, List.length_append]
        have : (bkMs (lgB A) r).length ≤ if rcK r ≤ 12 then 1 else 0 := by
          unfold bkMs
          by_cases c : rcK r = 0 ∨ 12 < rcK r
          · rw [if_pos c]; simp
          · rw [if_neg c, if_pos (show rcK r ≤ 12 by omega)]
            split <;> simp
        omega
  obtain ⟨c1, c2, c3⟩ := lgV_count h
  obtain ⟨g1, g2, -⟩ := bkG_log h
  have : sumN 16 (fun n => (bkF (lgB L) n).length) ≤ 16 * 60 := sumN_le 16 _ (fun i hi => by
    by_cases c : i < bkN (lgB L)
    · obtain ⟨P, -, q, -⟩ := g2 i c
      exact q.2.1
    · show (bkF (lgB L) i).length ≤ 60
      rw [c3 i (by omega)]; simp)
  omega
theorem rdS_gn {s : Nat} : ∀ p, ¬ rdS s 670 p := fun p z => by unfold rdS at z; omega
theorem rdS_rec {s : Nat} : ∀ a i, ¬ rdS s a i ∨ a < 633 ∨ 637 < a := fun a i => by
  by_cases c : a < 633 ∨ 637 < a
  · exact Or.inr c
  · left; unfold rdS; omega
/-- one record of the log is read -/
theorem w_reads {vs : Nat → List Prg} {now : Int32} {h : Hp} (H : RF h) {N s i : Nat} {EE : Nat → List Nat} {L A : List Rec} {r : Rec} {g : Shd} (hs : s < 4) (hN : N ≤ 60000) (hV : lgV vs L) (pre : A ++ [r] <+: L) (hL : L.length < 8192) (gA : stA vs (lgB A) g) (rd : rdAt h N s EE L A g) (gn : gnAt h L) (hi : idAt h N i r) (en : zI h 1201 616 = now) :
    ∃ h1 EE1, f_X11_reads 616 (nI s) (nI i) (nI A.length) h = some h1 ∧ frx (rdS s) h h1 ∧ rdAt h1 N s EE1 L (A ++ [r]) (shRead vs now g A.length r) := by
  have hr := hV A r pre
  have hVA : lgV vs A := lgV_pre vs A L ((List.prefix_append _ _).trans pre) hV
  have bg := bkG_log hVA
  have hAl : A.length < L.length := by have := pre.length_le; rw [List.length_append] at this; simp at this; omega
  obtain ⟨⟨r1, r2⟩, r3, r4, r5, r6⟩ := rd
  obtain ⟨s1, s2, s3⟩ := gA
  have hi6 : i < 60000 := by have := hi.1; omega
  have hOl : ((lgQ A).2.filter (fun m => !gnB L m.1)).length < 1000 := by
    have h1 := List.length_filter_le (fun m => !gnB L m.1) (lgQ A).2
    have h2 := lgQ_len hVA
    omega
  have ea : zE h 635 i = rcA r := hi.2.2.2.1
  have eb : zE h 636 i = rcB r := hi.2.2.2.2.1
  have empties := (lgV_count hVA).2.2
  have hK16 : rcK r < 16 := by rcases hr with ⟨q, -⟩ | ⟨q, -⟩ | ⟨q, -⟩ | ⟨q, -⟩ | ⟨q1, q2, -⟩ <;> omega
  have hN16 : rcN r < 16 := by
    have := bg.1
    rcases hr with ⟨-, q, q2, -⟩ | ⟨-, q⟩ | ⟨-, q, -⟩ | ⟨-, q, -⟩ | ⟨-, -, q, -⟩ <;> omega
  have eK : f_X11_kindOf 616 (nI i) h = some (nI (rcK r), h) := w_kind H hi6 hi.2 hK16 hN16
  have e0 := w_reads_0 (pl := A.length) H hs hN16 hi6 hK16 hi.2.1 eK r1
  have eg := gn A.length hAl
  -- records from 13 on
  have high : 12 < rcK r → (∀ n, bkF (lgB (A ++ [r])) n = bkF (lgB A) n) → (lgQ (A ++ [r])).2 = (lgQ A).2 → (shN (shRead vs now g A.length r) = shN g) → (∀ n, n < shN g → hasW (flE (shF (shRead vs now g A.length r) n)) → (n ≠ rcN r ∨ rcK r ≠ 15 → hasW (flE (shF g n)) ∧ (flT (shF (shRead vs now g A.length r) n)).2.2.1 = (flT (shF g n)).2.2.1 ∧ (flT (shF (shRead vs now g A.length r) n)).2.2.2.1 = (flT (shF g n)).2.2.2.1) ∧ (n = rcN r → rcK r = 15 → (flT (shF (shRead vs now g A.length r) n)).2.2.1 = rcA r ∧ (flT (shF (shRead vs now g A.length r) n)).2.2.2.1 = (if now < rcB r then rcB r else now))) → ∃ h1 EE1, f_X11_reads 616 (nI s) (nI i) (nI A.length) h = some h1 ∧ frx (rdS s) h h1 ∧ rdAt h1 N s EE1 L (A ++ [r]) (shRead vs now g A.length r) := fun h12 y1 y2 y3 y4 => by
    rw [if_neg (by omega)] at e0
    have e1 := w_reads_hi (pl := A.length) (w := 16 * s + rcN r) H hi6 (by omega) hK16 h12 ea eb en
    have f1 := h9_fr h (16 * s + rcN r) (rcK r) now (rcA r) (rcB r)
    have f1r : frx (rdS s) h (h91 (h66 h (16 * s + rcN r) (rcK r) now) (16 * s + rcN r) (rcK r) now (rcA r) (rcB r)) := f1.mono (fun a j z => Or.inr (Or.inr (Or.inl ⟨by omega, by omega⟩)))
    have vals := h9_val h (16 * s + rcN r) (rcK r) now (rcA r) (rcB r)
    generalize h91 (h66 h (16 * s + rcN r) (rcK r) now) (16 * s + rcN r) (rcK r) now (rcA r) (rcB r) = h1 at *
    refine ⟨h1, EE, by rw [e0, e1], f1r, ⟨by rw [y3, f1.2.2.2 647 s (by omega)]; exact r1, by rw [y3]; exact r2⟩, fun n hn => by rw [f1.2.2.2 660 _ (by omega)]; exact r3 n hn, fun n hn => ?_, fun n hn hw => ?_, ?_⟩
    · rw [y1]
      exact (r4 n hn).on f1 (fun a i _ => by omega) (fun a j z => by unfold evS at z; omega)
    · rw [y3] at hn
      obtain ⟨z1, z2⟩ := y4 n hn hw
      by_cases c : n = rcN r
      · by_cases c15 : rcK r = 15
        · obtain ⟨w1, w2⟩ := z2 c c15
          rw [if_neg (by omega), if_pos c15, if_neg (by omega), if_pos c15] at vals
          rw [w1, w2, c]; exact vals
        · obtain ⟨w0, w1, w2⟩ := z1 (Or.inr c15)
          rw [if_neg (by omega), if_neg c15, if_neg (by omega), if_neg c15] at vals
          rw [w1, w2, c, vals.1, vals.2, ← c]; exact r5 n hn w0
      · obtain ⟨w0, w1, w2⟩ := z1 (Or.inl c)
        rw [w1, w2, f1.2.2.2 664 _ (by omega), f1.2.2.2 661 _ (by omega)]
        exact r5 n hn w0
    · rw [y2]
      exact r6.on f1 (by omega) (fun a k g1 g2 => by omega)
  rcases hr with ⟨k0, k1, k2, k3, P, k4⟩ | ⟨k0, k1⟩ | ⟨k0, k1, -⟩ | ⟨k0, k1, -⟩ | ⟨k0, k1, k2, ⟨k3, k31⟩, P, k4, k5⟩
  · -- a row begins
    have eS : bkStep (lgB A) r = (bkN (lgB A) + 1, upf (bkF (lgB A)) (bkN (lgB A)) [rcE r], bkO (lgB A), bkP (lgB A) + 1) := by unfold bkStep; rw [if_pos k0, k1]
    have eR : shRead vs now g A.length r = (shZ g, shL g, shT g, shD g, bkN (lgB A) + 1, upf (shF g) (bkN (lgB A)) (flOpen (shF g (bkN (lgB A))) P (rcA r) (rcB r) (rcC r)), shO g, shQ g) := by
      unfold shRead; simp only []; rw [if_pos k0, k1]; exact shOpen_eq k4
    rw [if_pos k0] at e0
    have f0 : frx (fun a j => a = 647 ∧ j = s) h (pE h 647 s (nI (shN g + 1))) := frx_pE ⟨rfl, rfl⟩
    have em : bkF (lgB A) (rcN r) = [] := empties _ (by omega)
    have evn := r4 (rcN r) hN16
    rw [em] at evn
    obtain ⟨h1, e1, f1, ev1, ob1⟩ := w_reads_lo (now := now) (i := i) (e := rcE r) (t := rcT r) (pl := A.length) (O := (lgQ A).2.filter (fun m => !gnB L m.1)) (H.on f0) hs hN16 hN (by omega) (gnB L A.length) (by rw [f0.2.2.2 670 _ (by omega)]; exact eg) (evn.on f0 (fun a i _ => by omega) (fun a j z => by unfold evS at z; omega)) (by simp) (fun _ => k0) (by show rcK r ≤ 12; omega) (hi.on f0 (fun a i _ => by omega)) (r6.on f0 (by omega) (fun a k g1 g2 => by omega)) hOl (by rw [f0.2.2.1 1201 (by omega)]; exact en)
    have e1 : f_X11_reads_38 616 (nI i) (nI A.length) (nI (16 * s + rcN r)) (nI (rcK r)) (pE h 647 s (nI (shN g + 1))) = some (h91 (h66 h1 (16 * s + rcN r) (rcK r) now) (16 * s + rcN r) (rcK r) now (rcA r) (rcB r)) := e1
    have e9 : h91 (h66 h1 (16 * s + rcN r) (rcK r) now) (16 * s + rcN r) (rcK r) now (rcA r) (rcB r) = h1 := by unfold h91 h66; rw [if_neg (by omega), if_neg (by omega)]
    rw [e9] at e1
    have f1 : frx (kpS (16 * s + rcN r) s 0 ((lgQ A).2.filter (fun m => !gnB L m.1)).length) (pE h 647 s (nI (shN g + 1))) h1 := f1
    have fall : frx (rdS s) h h1 := (f0.mono (fun a j z => Or.inl z)).trans (f1.mono (kpS_rd hN16 (by omega) (by omega)))
    have bm : bkMsg [] (rcE r).1 = false := by
      show bkMsg [] (rcK r) = false
      rw [k0]; rfl
    rw [if_neg (by rw [bm]; exact fun z => Bool.noConfusion z)] at ob1
    refine ⟨h1, upf EE (rcN r) [i], by rw [e0, e1], fall, ?_⟩
    rw [eR]
    refine ⟨⟨?_, by show bkN (lgB A) + 1 ≤ 16; omega⟩, fun n hn => ?_, fun n hn => ?_, fun n hn hw => ?_, ?_⟩
    · rw [f1.2.2.2 647 s (by unfold kpS; omega), zE_pE, if_pos ⟨rfl, rfl⟩, s1]
    · rw [f1.2.2.2 660 _ (by unfold kpS; omega), zE_pE, if_neg (by omega)]; exact r3 n hn
    · rw [lgB_snoc, eS]
      show evsAt h1 N (16 * s + n) (upf EE (rcN r) [i] n) (upf (bkF (lgB A)) (bkN (lgB A)) [rcE r] n)
      by_cases c : n = rcN r
      · rw [show upf EE (rcN r) [i] n = [i] from if_pos c, show upf (bkF (lgB A)) (bkN (lgB A)) [rcE r] n = [rcE r] from if_pos (by omega), c]
        have hE : EE (rcN r) = [] := List.length_eq_zero_iff.mp evn.2.1.1
        rw [hE] at ev1
        exact ev1
      · rw [show upf EE (rcN r) [i] n = EE n from if_neg c, show upf (bkF (lgB A)) (bkN (lgB A)) [rcE r] n = bkF (lgB A) n from if_neg (by omega)]
        exact ((r4 n hn).on f0 (fun a i _ => by omega) (fun a j z => by unfold evS at z; omega)).on f1 (fun a i _ => by unfold kpS; omega) (fun a j z => by unfold evS at z; unfold kpS; omega)
    · have hn : n < bkN (lgB A) + 1 := hn
      have hw : hasW (flE (upf (shF g) (bkN (lgB A)) (flOpen (shF g (bkN (lgB A))) P (rcA r) (rcB r) (rcC r)) n)) := hw
      show zE h1 664 (16 * s + n) = (flT (upf (shF g) (bkN (lgB A)) (flOpen (shF g (bkN (lgB A))) P (rcA r) (rcB r) (rcC r)) n)).2.2.1 ∧ zE h1 661 (16 * s + n) = (flT (upf (shF g) (bkN (lgB A)) (flOpen (shF g (bkN (lgB A))) P (rcA r) (rcB r) (rcC r)) n)).2.2.2.1
      by_cases c : n = bkN (lgB A)
      · rw [show upf (shF g) (bkN (lgB A)) _ n = flOpen (shF g (bkN (lgB A))) P (rcA r) (rcB r) (rcC r) from if_pos c] at hw
        obtain ⟨x, hx, hx1⟩ := hw
        have hx : x ∈ [((0, rcA r, rcB r, rcC r) : Evt)] := hx
        rw [List.mem_singleton] at hx
        rw [hx] at hx1
        cases hx1
      · rw [show upf (shF g) (bkN (lgB A)) _ n = shF g n from if_neg c] at hw ⊢
        rw [f1.2.2.2 664 _ (by unfold kpS; omega), f1.2.2.2 661 _ (by unfold kpS; omega), zE_pE, if_neg (by omega), zE_pE, if_neg (by omega)]
        exact r5 n (by omega) hw
    · rw [lgQ_snoc, show bkMs (lgB A) r = [] by unfold bkMs; rw [if_pos (Or.inl k0)], List.append_nil]
      exact ob1
  · have eS : bkStep (lgB A) r = (bkN (lgB A), bkF (lgB A), bkO (lgB A), bkP (lgB A) + 1) := by unfold bkStep; rw [if_neg (by omega), if_neg (by omega), if_pos (by omega)]
    have eR : shRead vs now g A.length r = g := by unfold shRead; simp only []; rw [if_neg (by omega), if_neg (by omega), if_neg (by omega), if_neg (by omega)]
    refine high (by omega) (fun n => by rw [lgB_snoc, eS]) (by rw [lgQ_snoc, show bkMs (lgB A) r = [] by unfold bkMs; rw [if_pos (by omega)], List.append_nil]) (by rw [eR]) (fun n hn hw => ?_)
    rw [eR] at hw ⊢
    exact ⟨fun _ => ⟨hw, rfl, rfl⟩, fun _ z => by omega⟩
  · have eS : bkStep (lgB A) r = (bkN (lgB A), bkF (lgB A), (bkO (lgB A)).filter (fun m => Int32.ofNat m.1 ≠ rcA r), bkP (lgB A) + 1) := by unfold bkStep; rw [if_neg (by omega), if_pos k0]
    have eR : shRead vs now g A.length r = shSetO g ((shO g).filter (fun m => Int32.ofNat m.1 ≠ rcA r)) := by unfold shRead; simp only []; rw [if_neg (by omega), if_pos k0]
    refine high (by omega) (fun n => by rw [lgB_snoc, eS]) (by rw [lgQ_snoc, show bkMs (lgB A) r = [] by unfold bkMs; rw [if_pos (by omega)], List.append_nil]) (by rw [eR]; rfl) (fun n hn hw => ?_)
    rw [eR] at hw ⊢
    exact ⟨fun _ => ⟨hw, rfl, rfl⟩, fun _ z => by omega⟩
  · have eS : bkStep (lgB A) r = (bkN (lgB A), bkF (lgB A), bkO (lgB A), bkP (lgB A) + 1) := by unfold bkStep; rw [if_neg (by omega), if_neg (by omega), if_pos (by omega)]
    have eR : shRead vs now g A.length r = shSetF g (rcN r) (flP (shF g (rcN r)), flE (shF g (rcN r)), flW (shF g (rcN r)), tkReady (flT (shF g (rcN r))) (rcA r) (if now < rcB r then rcB r else now)) := by unfold shRead; simp only []; rw [if_neg (by omega), if_neg (by omega), if_pos k0]
    refine high (by omega) (fun n => by rw [lgB_snoc, eS]) (by rw [lgQ_snoc, show bkMs (lgB A) r = [] by unfold bkMs; rw [if_pos (by omega)], List.append_nil]) (by rw [eR]; rfl) (fun n hn hw => ?_)
    rw [eR] at hw ⊢
    have hw : hasW (flE (upf (shF g) (rcN r) (flP (shF g (rcN r)), flE (shF g (rcN r)), flW (shF g (rcN r)), tkReady (flT (shF g (rcN r))) (rcA r) (if now < rcB r then rcB r else now)) n)) := hw
    show (_ → hasW (flE (shF g n)) ∧ (flT (upf (shF g) (rcN r) (flP (shF g (rcN r)), flE (shF g (rcN r)), flW (shF g (rcN r)), tkReady (flT (shF g (rcN r))) (rcA r) (if now < rcB r then rcB r else now)) n)).2.2.1 = _ ∧ (flT (upf (shF g) (rcN r) (flP (shF g (rcN r)), flE (shF g (rcN r)), flW (shF g (rcN r)), tkReady (flT (shF g (rcN r))) (rcA r) (if now < rcB r then rcB r else now)) n)).2.2.2.1 = _) ∧ (_ → _ → (flT (upf (shF g) (rcN r) (flP (shF g (rcN r)), flE (shF g (rcN r)), flW (shF g (rcN r)), tkReady (flT (shF g (rcN r))) (rcA r) (if now < rcB r then rcB r else now)) n)).2.2.1 = _ ∧ (flT (upf (shF g) (rcN r) (flP (shF g (rcN r)), flE (shF g (rcN r)), flW (shF g (rcN r)), tkReady (flT (shF g (rcN r))) (rcA r) (if now < rcB r then rcB r else now)) n)).2.2.2.1 = _)
    by_cases c : n = rcN r
    · rw [show upf (shF g) (rcN r) _ n = _ from if_pos c] at hw ⊢
      exact ⟨fun z => by rcases z with z | z; exact absurd c z; exact absurd k0 z, fun _ _ => ⟨rfl, rfl⟩⟩
    · rw [show upf (shF g) (rcN r) _ n = shF g n from if_neg c] at hw ⊢
      exact ⟨fun _ => ⟨hw, rfl, rfl⟩, fun z => absurd z c⟩
  · -- an event
    have eS : bkStep (lgB A) r = (bkN (lgB A), upf (bkF (lgB A)) (rcN r) (bkF (lgB A) (rcN r) ++ [rcE r]), (if bkMsg (bkF (lgB A) (rcN r)) (rcK r) = true then bkO (lgB A) ++ [(bkP (lgB A), rcN r, (bkF (lgB A) (rcN r)).length)] else bkO (lgB A)), bkP (lgB A) + 1) := by unfold bkStep; rw [if_neg (by omega), if_neg (by omega), if_neg (by omega)]
    obtain ⟨P1, -, q2, -⟩ := bg.2.1 _ k2
    have l0 := q2.1
    have fA := flTake_A (flRun_Z (s3 _ k2) now) l0 (rcE r) now
    have eF : shF (shRead vs now g A.length r) = upf (shF g) (rcN r) (flTake (flRun (shF g (rcN r)) now).2 (rcE r) now) ∧ shN (shRead vs now g A.length r) = shN g := by
      unfold shRead; simp only []; rw [if_neg (by omega), if_neg (by omega), if_neg (by omega), if_pos (by omega)]
      split <;> exact ⟨rfl, rfl⟩
    rw [if_neg (by omega)] at e0
    have ne : bkF (lgB A) (rcN r) ≠ [] := fun z => by rw [z] at l0; exact absurd l0 (by decide)
    obtain ⟨h1, e1, f1, ev1, ob1⟩ := w_reads_lo (now := now) (i := i) (e := rcE r) (t := rcT r) (pl := A.length) (O := (lgQ A).2.filter (fun m => !gnB L m.1)) H hs hN16 hN (by omega) (gnB L A.length) eg (r4 (rcN r) hN16) k3 (fun z => absurd z ne) k1 hi r6 hOl en
    have e1 : f_X11_reads_38 616 (nI i) (nI A.length) (nI (16 * s + rcN r)) (nI (rcK r)) h = some (h91 (h66 h1 (16 * s + rcN r) (rcK r) now) (16 * s + rcN r) (rcK r) now (rcA r) (rcB r)) := e1
    have f2 := h9_fr h1 (16 * s + rcN r) (rcK r) now (rcA r) (rcB r)
    have vals := h9_val h1 (16 * s + rcN r) (rcK r) now (rcA r) (rcB r)
    generalize h91 (h66 h1 (16 * s + rcN r) (rcK r) now) (16 * s + rcN r) (rcK r) now (rcA r) (rcB r) = h2 at *
    have fall : frx (rdS s) h h2 := (f1.mono (kpS_rd hN16 k3 (by omega))).trans (f2.mono (fun a j z => Or.inr (Or.inr (Or.inl ⟨by omega, by omega⟩))))
    refine ⟨h2, upf EE (rcN r) (EE (rcN r) ++ [i]), by rw [e0, e1], fall, ?_⟩
    refine ⟨⟨?_, by rw [eF.2]; exact r2⟩, fun n hn => ?_, fun n hn => ?_, fun n hn hw => ?_, ?_⟩
    · rw [f2.2.2.2 647 s (by omega), f1.2.2.2 647 s (by unfold kpS; omega), eF.2]; exact r1
    · rw [f2.2.2.2 660 _ (by omega), f1.2.2.2 660 _ (by unfold kpS; omega)]; exact r3 n hn
    · rw [lgB_snoc, eS]
      show evsAt h2 N (16 * s + n) (upf EE (rcN r) (EE (rcN r) ++ [i]) n) (upf (bkF (lgB A)) (rcN r) (bkF (lgB A) (rcN r) ++ [rcE r]) n)
      by_cases c : n = rcN r
      · rw [show upf EE (rcN r) (EE (rcN r) ++ [i]) n = _ from if_pos c, show upf (bkF (lgB A)) (rcN r) (bkF (lgB A) (rcN r) ++ [rcE r]) n = _ from if_pos c, c]
        exact ev1.on f2 (fun a i _ => by omega) (fun a j z => by unfold evS at z; omega)
      · rw [show upf EE (rcN r) (EE (rcN r) ++ [i]) n = _ from if_neg c, show upf (bkF (lgB A)) (rcN r) (bkF (lgB A) (rcN r) ++ [rcE r]) n = _ from if_neg c]
        exact ((r4 n hn).on f1 (fun a i _ => by unfold kpS; omega) (fun a j z => by unfold evS at z; unfold kpS; omega)).on f2 (fun a i _ => by omega) (fun a j z => by unfold evS at z; omega)
    · rw [eF.2] at hn
      rw [eF.1] at hw ⊢
      by_cases c : n = rcN r
      · rw [show upf (shF g) (rcN r) _ n = _ from if_pos c] at hw ⊢
        have eT : flT (flTake (flRun (shF g (rcN r)) now).2 (rcE r) now) = (if rcK r = 1 then tkOpen (flT (shF g (rcN r))) (rcA r) (rcB r) now else if rcK r = 2 ∨ rcK r = 3 ∨ 10 ≤ rcK r then tkFree (flT (shF g (rcN r))) else flT (shF g (rcN r))) := rfl
        rw [eT, c, vals.1, vals.2]
        by_cases c1 : rcK r = 1
        · rw [if_pos c1, if_pos c1, if_pos c1]; exact ⟨rfl, rfl⟩
        · rw [if_neg c1, if_neg c1, if_neg c1, if_neg (show ¬ rcK r = 15 by omega), if_neg (show ¬ rcK r = 15 by omega), f1.2.2.2 664 _ (by unfold kpS; omega), f1.2.2.2 661 _ (by unfold kpS; omega)]
          have hw0 : hasW (flE (shF g (rcN r))) := by
            rw [fA.1, hasW_snoc] at hw
            rw [(s3 _ k2).1]
            exact hw.resolve_right c1
          have := r5 (rcN r) (by omega) hw0
          split <;> exact this
      · rw [show upf (shF g) (rcN r) _ n = shF g n from if_neg c] at hw ⊢
        rw [f2.2.2.2 664 _ (by omega), f2.2.2.2 661 _ (by omega), f1.2.2.2 664 _ (by unfold kpS; omega), f1.2.2.2 661 _ (by unfold kpS; omega)]
        exact r5 n hn hw
    · have ms : bkMs (lgB A) r = if bkMsg (bkF (lgB A) (rcN r)) (rcK r) = true then [(A.length, rcN r, (bkF (lgB A) (rcN r)).length)] else [] := by unfold bkMs; rw [if_neg (by omega), lgB_place]
      rw [lgQ_snoc, List.filter_append, ms]
      have ob2 := ob1.on f2 (by omega) (fun a k g1 g2 => by omega)
      have ob2 : obAt h2 s (if bkMsg (bkF (lgB A) (rcN r)) (rcK r) = true then (if gnB L A.length = true then (lgQ A).2.filter (fun m => !gnB L m.1) else (lgQ A).2.filter (fun m => !gnB L m.1) ++ [(A.length, rcN r, (bkF (lgB A) (rcN r)).length)]) else (lgQ A).2.filter (fun m => !gnB L m.1)) := ob2
      by_cases cm : bkMsg (bkF (lgB A) (rcN r)) (rcK r) = true
      · rw [if_pos cm] at ob2 ⊢
        by_cases cg : gnB L A.length = true
        · rw [if_pos cg] at ob2
          rw [List.filter_cons_of_neg (by rw [cg]; exact fun z => Bool.noConfusion z), List.filter_nil, List.append_nil]
          exact ob2
        · rw [if_neg cg] at ob2
          have cg : gnB L A.length = false := by
            cases hz : gnB L A.length with
            | false => rfl
            | true => exact absurd hz cg
          rw [List.filter_cons_of_pos (by rw [cg]; rfl), List.filter_nil]
          exact ob2
      · rw [if_neg cm] at ob2 ⊢
        rw [List.filter_nil, List.append_nil]
        exact ob2
/-! THE NEW LEADER READS ITS LOG -/
def clS (s : Nat) (a j : Nat) : Prop := (a = 649 ∨ a = 660 ∨ a = 661 ∨ a = 664) ∧ j / 16 = s
theorem zi_16 (s k : Nat) : (16 : Int32) * nI s + nI k = nI (16 * s + k) := by rw [show (16 : Int32) = nI 16 from rfl, zi_mul, zi_add]
theorem w_build_30 {KL : Nat → Int32 → Hp → Option Hp} {s : Nat} (hs : s < 4) {x now : Int32} : ∀ (m j fuel : Nat) (h : Hp), RF h → zI h 1201 616 = now → j + m = 16 → m < fuel → (∀ n, n < j → zE h 649 (16 * s + n) = 0 ∧ zE h 660 (16 * s + n) = 0) → ∃ h1, f_X11_build_30 KL fuel 616 (nI s) x (nI (16 * s + j)) h = f_X11_build_80 KL fz 616 (nI s) x 0 h1 ∧ frx (clS s) h h1 ∧ ∀ n, n < 16 → zE h1 649 (16 * s + n) = 0 ∧ zE h1 660 (16 * s + n) = 0
  | m, j, 0, h, _, _, _, hf, _ => absurd hf (Nat.not_lt_zero _)
  | 0, j, fuel + 1, h, H, en, hj, hf, hz => by
    have c : (16 : Int32) * nI s + 16 ≤ nI (16 * s + j) := by
      rw [show (16 : Int32) = nI 16 from rfl, zi_mul, zi_add]
      exact (zi_le (by omega) (by omega)).mpr (by omega)
    refine ⟨h, ?_, frx.rf h, fun n hn => hz n (by omega)⟩
    unfold f_X11_build_30
    rw [if_pos c]
  | m + 1, j, fuel + 1, h, H, en, hj, hf, hz => by
    have c : ¬ (16 : Int32) * nI s + 16 ≤ nI (16 * s + j) := by
      rw [show (16 : Int32) = nI 16 from rfl, zi_mul, zi_add]
      exact zi_le0 (by omega) (by omega) (by omega)
    have nw : (nI (16 * s + j)).toNatClampNeg = 16 * s + j := zi_nat (by omega)
    have gw : ¬ nI (16 * s + j) < 0 := zi_neg (by omega)
    have lw : ¬ 64 ≤ 16 * s + j := by omega
    have f1 : frx (clS s) h (pE (pE (pE (pE h 649 (16 * s + j) 0) 660 (16 * s + j) 0) 664 (16 * s + j) 1) 661 (16 * s + j) now) := (((frx_pE ⟨by omega, by omega⟩).trans (frx_pE ⟨by omega, by omega⟩)).trans (frx_pE ⟨by omega, by omega⟩)).trans (frx_pE ⟨by omega, by omega⟩)
    obtain ⟨h1, a1, a2, a3⟩ := w_build_30 (KL := KL) (x := x) (now := now) hs m (j + 1) fuel _ (H.on f1) (by rw [f1.2.2.1 1201 (by unfold clS; omega)]; exact en) (by omega) (by omega) (fun n hn => by
      constructor
      · rw [zE_pE, if_neg (by omega), zE_pE, if_neg (by omega), zE_pE, if_neg (by omega), zE_pE]
        split
        · rfl
        · exact (hz n (by omega)).1
      · rw [zE_pE, if_neg (by omega), zE_pE, if_neg (by omega), zE_pE]
        split
        · rfl
        · rw [zE_pE, if_neg (by omega)]; exact (hz n (by omega)).2)
    refine ⟨h1, ?_, f1.trans a2, a3⟩
    rw [← a1]
    have e1 : nI (16 * s + j) + 1 = nI (16 * s + (j + 1)) := zi_add _ 1
    simp only [f_X11_build_30, o10, o00, bh, isO, inR, ck_true, bind_some9, Nat.reduceLeDiff, Nat.reduceEqDiff, and_self, and_true, true_and, false_and, and_false, not_false_eq_true, not_true_eq_false, or_self, or_false, false_or, if_true, if_false, reduceIte, RF_o H, RF_1241 H, RO_649 H, RL_649 H, RF_1252 H, RO_660 H, RL_660 H, RF_1253 H, RO_661 H, RL_661 H, RF_1256 H, RO_664 H, RL_664 H, zR_pE, zT_pE, zL_pE, zn_pE, zE_pE, zI_pE, zR_pI, zT_pI, zL_pI, zn_pI, zE_pI, zI_pI, c, nw, gw, lw, en, e1]
theorem w_build_80 {KL : Nat → Int32 → Hp → Option Hp} {s x W : Nat} (hx : x < 20) (hW : W < 8192) : ∀ (m k fuel : Nat) (h : Hp), RF h → zE h 639 x = nI W → k + m = W → m < fuel → (∀ p, p < k → zE h 670 p = 0) → ∃ h1, f_X11_build_80 KL fuel 616 (nI s) (nI x) (nI k) h = f_X11_build_105 KL fz 616 (nI s) (nI x) 0 h1 ∧ frx (fun a _ => a = 670) h h1 ∧ ∀ p, p < W → zE h1 670 p = 0
  | m, k, 0, h, _, _, _, hf, _ => absurd hf (Nat.not_lt_zero _)
  | 0, k, fuel + 1, h, H, ew, hk, hf, hz => by
    have c : nI W ≤ nI k := (zi_le (by omega) (by omega)).mpr (by omega)
    have nx : (nI x).toNatClampNeg = x := zi_nat (by omega)
    have gx : ¬ nI x < 0 := zi_neg (by omega)
    have lx : ¬ 20 ≤ x := by omega
    refine ⟨h, ?_, frx.rf h, fun p hp => hz p (by omega)⟩
    simp only [f_X11_build_80, o10, o00, bh, isO, inR, ck_true, bind_some9, Nat.reduceLeDiff, Nat.reduceEqDiff, and_self, and_true, true_and, false_and, and_false, not_false_eq_true, not_true_eq_false, or_self, or_false, false_or, if_true, if_false, reduceIte, RF_o H, RF_1231 H, RO_639 H, RL_639 H, RF_1262 H, RO_670 H, RL_670 H, zR_pE, zT_pE, zL_pE, zn_pE, zE_pE, zI_pE, zR_pI, zT_pI, zL_pI, zn_pI, zE_pI, zI_pI, nx, gx, lx, ew, c]
  | m + 1, k, fuel + 1, h, H, ew, hk, hf, hz => by
    have c : ¬ nI W ≤ nI k := zi_le0 (by omega) (by omega) (by omega)
    have nx : (nI x).toNatClampNeg = x := zi_nat (by omega)
    have gx : ¬ nI x < 0 := zi_neg (by omega)
    have lx : ¬ 20 ≤ x := by omega
    have nk : (nI k).toNatClampNeg = k := zi_nat (by omega)
    have gk : ¬ nI k < 0 := zi_neg (by omega)
    have lk : ¬ 8192 ≤ k := by omega
    have z1 : (0 : Int32) &&& 1 = 0 := by decide
    have f1 : frx (fun a _ => a = 670) h (pE h 670 k 0) := frx_pE rfl
    obtain ⟨h1, a1, a2, a3⟩ := w_build_80 (KL := KL) (s := s) hx hW m (k + 1) fuel _ (H.on f1) (by rw [f1.2.2.2 639 _ (show ¬ 639 = 670 by decide)]; exact ew) (by omega) (by omega) (fun p hp => by
      rw [zE_pE]
      split
      · rfl
      · exact hz p (by omega))
    refine ⟨h1, ?_, f1.trans a2, a3⟩
    rw [← a1]
    simp only [f_X11_build_80, o10, o00, bh, isO, inR, ck_true, bind_some9, Nat.reduceLeDiff, Nat.reduceEqDiff, and_self, and_true, true_and, false_and, and_false, not_false_eq_true, not_true_eq_false, or_self, or_false, false_or, if_true, if_false, reduceIte, RF_o H, RF_1231 H, RO_639 H, RL_639 H, RF_1262 H, RO_670 H, RL_670 H, zR_pE, zT_pE, zL_pE, zn_pE, zE_pE, zI_pE, zR_pI, zT_pI, zL_pI, zn_pI, zE_pI, zI_pI, nx, gx, lx, ew, c, nk, gk, lk, z1, zi_one]
theorem gnB_take {L : List Rec} {k p : Nat} {r : Rec} (hr : L[k]? = some r) : gnB (L.take (k + 1)) p = (gnB (L.take k) p || (decide (rcK r = 14) && decide (rcA r = nI p))) := by
  rw [← gnB_snoc]
  congr 1
  rw [List.take_add_one, hr]
  rfl
theorem w_build_105 {vs : Nat → List Prg} {KL : Nat → Int32 → Hp → Option Hp} {s x N : Nat} {L : List Rec} {J : List Nat} (hx : x < 20) (hL : L.length < 8192) (hN : N ≤ 60000) (hV : lgV vs L) (hJ : J.length = L.length) : ∀ (m k fuel : Nat) (h : Hp), RF h → zE h 639 x = nI L.length → (∀ (y i : Nat), J[y]? = some i → zE h 638 (8192 * x + y) = nI i) → (∀ (y i : Nat) (r : Rec), J[y]? = some i → L[y]? = some r → idAt h N i r) → k + m = L.length → m < fuel → (∀ p, p < L.length → zE h 670 p = if gnB (L.take k) p = true then 1 else 0) → ∃ h1, f_X11_build_105 KL fuel 616 (nI s) (nI x) (nI k) h = f_X11_build_167 KL fz 616 (nI s) (nI x) 0 h1 ∧ frx (fun a _ => a = 670) h h1 ∧ gnAt h1 L
  | m, k, 0, h, _, _, _, _, _, hf, _ => absurd hf (Nat.not_lt_zero _)
  | 0, k, fuel + 1, h, H, ew, _, _, hk, hf, hz => by
    have c : nI L.length ≤ nI k := (zi_le (by omega) (by omega)).mpr (by omega)
    have nx : (nI x).toNatClampNeg = x := zi_nat (by omega)
    have gx : ¬ nI x < 0 := zi_neg (by omega)
    have lx : ¬ 20 ≤ x := by omega
    have ek : k = L.length := by omega
    rw [ek, List.take_length] at hz
    refine ⟨h, ?_, frx.rf h, hz⟩
    simp only [f_X11_build_105, o10, o00, bh, isO, inR, ck_true, bind_some9, Nat.reduceLeDiff, Nat.reduceEqDiff, and_self, and_true, true_and, false_and, and_false, not_false_eq_true, not_true_eq_false, or_self, or_false, false_or, if_true, if_false, reduceIte, RF_o H, RF_1227 H, RO_635 H, RL_635 H, RF_1230 H, RO_638 H, RL_638 H, RF_1231 H, RO_639 H, RL_639 H, RF_1262 H, RO_670 H, RL_670 H, zR_pE, zT_pE, zL_pE, zn_pE, zE_pE, zI_pE, zR_pI, zT_pI, zL_pI, zn_pI, zE_pI, zI_pI, nx, gx, lx, ew, c]
  | m + 1, k, fuel + 1, h, H, ew, h8, hid, hk, hf, hz => by
    have c : ¬ nI L.length ≤ nI k := zi_le0 (by omega) (by omega) (by omega)
    have nx : (nI x).toNatClampNeg = x := zi_nat (by omega)
    have gx : ¬ nI x < 0 := zi_neg (by omega)
    have lx : ¬ 20 ≤ x := by omega
    have nk : (nI (8192 * x + k)).toNatClampNeg = 8192 * x + k := zi_nat (by omega)
    have gk : ¬ nI (8192 * x + k) < 0 := zi_neg (by omega)
    have lk : ¬ 163840 ≤ 8192 * x + k := by omega
    have hkL : k < L.length := by omega
    have hr : L[k]? = some (L[k]'hkL) := List.getElem?_eq_getElem hkL
    have hj : J[k]? = some (J[k]'(by omega)) := List.getElem?_eq_getElem (by omega)
    have i8 := h8 k _ hj
    have idk := hid k _ _ hj hr
    generalize J[k]'(by omega) = i at *
    generalize L[k]'hkL = r at *
    have hi6 : i < 60000 := by have := idk.1; omega
    have pre : L.take k ++ [r] <+: L := by
      have e : L.take k ++ [r] = L.take (k + 1) := by rw [List.take_add_one, hr]; rfl
      rw [e]; exact List.take_prefix _ _
    have rok := hV _ r pre
    have bg := bkG_log (lgV_pre vs _ L (List.take_prefix _ _) hV : lgV vs (L.take k))
    have hK16 : rcK r < 16 := by rcases rok with ⟨q, -⟩ | ⟨q, -⟩ | ⟨q, -⟩ | ⟨q, -⟩ | ⟨q1, q2, -⟩ <;> omega
    have hN16 : rcN r < 16 := by
      have := bg.1
      rcases rok with ⟨-, q, q2, -⟩ | ⟨-, q⟩ | ⟨-, q, -⟩ | ⟨-, q, -⟩ | ⟨-, -, q, -⟩ <;> omega
    have eK : f_X11_kindOf 616 (nI i) h = some (nI (rcK r), h) := w_kind H hi6 idk.2 hK16 hN16
    have k14 : nI (rcK r) = (14 : Int32) ↔ rcK r = 14 := zi_eq (b := 14) (by omega) (by omega)
    have gt := fun p => gnB_take (p := p) hr
    by_cases c14 : rcK r = 14
    · have d := eq_true (k14.mpr c14)
      obtain ⟨p, p1, p2⟩ := gone_lt hV (List.mem_of_getElem? hr) c14
      have ea : zE h 635 i = nI p := by rw [← p2]; exact idk.2.2.2.1
      have ni : (nI i).toNatClampNeg = i := zi_nat (by omega)
      have gi : ¬ nI i < 0 := zi_neg (by omega)
      have li : ¬ 60000 ≤ i := by omega
      have np : (nI p).toNatClampNeg = p := zi_nat (by omega)
      have gp : ¬ nI p < 0 := zi_neg (by omega)
      have lp : ¬ 8192 ≤ p := by omega
      have z1 : (1 : Int32) &&& 1 = 1 := by decide
      have f1 : frx (fun a _ => a = 670) h (pE h 670 p 1) := frx_pE rfl
      obtain ⟨h1, a1, a2, a3⟩ := w_build_105 (KL := KL) (s := s) hx hL hN hV hJ m (k + 1) fuel (pE h 670 p 1) (H.on f1) (by rw [f1.2.2.2 639 _ (show ¬ 639 = 670 by decide)]; exact ew) (fun y i hy => by rw [f1.2.2.2 638 _ (show ¬ 638 = 670 by decide)]; exact h8 y i hy) (fun y i r hy hr => (hid y i r hy hr).on f1 (fun a _ _ => by omega)) (by omega) (by omega) (fun y hy => by
        rw [zE_pE, gt y]
        by_cases cy : y = p
        · rw [if_pos ⟨rfl, cy⟩]
          have : decide (rcA r = nI y) = true := decide_eq_true (by rw [cy]; exact p2)
          rw [this, decide_eq_true c14]
          simp
        · rw [if_neg (fun z => cy z.2)]
          have : decide (rcA r = nI y) = false := decide_eq_false (fun z => cy (by
            rw [p2] at z
            exact ((zi_eq (by omega) (by omega)).mp z).symm))
          rw [this, Bool.and_false, Bool.or_false]
          exact hz y hy)
      refine ⟨h1, ?_, f1.trans a2, a3⟩
      rw [← a1]
      simp only [f_X11_build_105, f_X11_build_159, o10, o00, bh, isO, inR, ck_true, bind_some9, Nat.reduceLeDiff, Nat.reduceEqDiff, and_self, and_true, true_and, false_and, and_false, not_false_eq_true, not_true_eq_false, or_self, or_false, false_or, if_true, if_false, reduceIte, RF_o H, RF_1227 H, RO_635 H, RL_635 H, RF_1230 H, RO_638 H, RL_638 H, RF_1231 H, RO_639 H, RL_639 H, RF_1262 H, RO_670 H, RL_670 H, zR_pE, zT_pE, zL_pE, zn_pE, zE_pE, zI_pE, zR_pI, zT_pI, zL_pI, zn_pI, zE_pI, zI_pI, nx, gx, lx, ew, c, zi_big, nk, gk, lk, i8, eK, d, ni, gi, li, ea, np, gp, lp, z1, zi_one]
    · have d := eq_false (fun z => c14 (k14.mp z))
      obtain ⟨h1, a1, a2, a3⟩ := w_build_105 (KL := KL) (s := s) hx hL hN hV hJ m (k + 1) fuel h H ew h8 hid (by omega) (by omega) (fun y hy => by
        rw [gt y, decide_eq_false c14, Bool.false_and, Bool.or_false]
        exact hz y hy)
      refine ⟨h1, ?_, a2, a3⟩
      rw [← a1]
      simp only [f_X11_build_105, f_X11_build_159, o10, o00, bh, isO, inR, ck_true, bind_some9, Nat.reduceLeDiff, Nat.reduceEqDiff, and_self, and_true, true_and, false_and, and_false, not_false_eq_true, not_true_eq_false, or_self, or_false, false_or, if_true, if_false, reduceIte, RF_o H, RF_1227 H, RO_635 H, RL_635 H, RF_1230 H, RO_638 H, RL_638 H, RF_1231 H, RO_639 H, RL_639 H, RF_1262 H, RO_670 H, RL_670 H, zR_pE, zT_pE, zL_pE, zn_pE, zE_pE, zI_pE, zR_pI, zT_pI, zL_pI, zn_pI, zE_pI, zI_pI, nx, gx, lx, ew, c, zi_big, nk, gk, lk, i8, eK, d, zi_one]
theorem shReads_snoc (vs : Nat → List Prg) (now : Int32) : ∀ (A : List Rec) (p : Nat) (r : Rec) (g : Shd), shReads vs now p (A ++ [r]) g = shRead vs now (shReads vs now p A g) (p + A.length) r
  | [], p, r, g => rfl
  | a :: A, p, r, g => by
    show shReads vs now (p + 1) (A ++ [r]) _ = _
    rw [shReads_snoc vs now A (p + 1) r, List.length_cons, show p + 1 + A.length = p + (A.length + 1) by omega]
    rfl
theorem w_build_167 {vs : Nat → List Prg} {KL : Nat → Int32 → Hp → Option Hp} {now : Int32} {s x N : Nat} {L : List Rec} {J : List Nat} {g0 : Shd} (hs : s < 4) (hx : x < 20) (hL : L.length < 8192) (hN : N ≤ 60000) (hV : lgV vs L) (hJ : J.length = L.length) (s0 : stA vs (lgB []) g0) (k0 : stK g0) : ∀ (m k fuel : Nat) (h : Hp) (EE : Nat → List Nat), RF h → zI h 1201 616 = now → zE h 639 x = nI L.length → (∀ (y i : Nat), J[y]? = some i → zE h 638 (8192 * x + y) = nI i) → (∀ (y i : Nat) (r : Rec), J[y]? = some i → L[y]? = some r → idAt h N i r) → gnAt h L → k + m = L.length → m < fuel → rdAt h N s EE L (L.take k) (shReads vs now 0 (L.take k) g0) → ∃ h1 EE1, f_X11_build_167 KL fuel 616 (nI s) (nI x) (nI k) h = f_X11_build_203 KL fz 616 (nI s) 0 h1 ∧ frx (rdS s) h h1 ∧ rdAt h1 N s EE1 L L (shReads vs now 0 L g0)
  | m, k, 0, h, EE, _, _, _, _, _, _, _, hf, _ => absurd hf (Nat.not_lt_zero _)
  | 0, k, fuel + 1, h, EE, H, en, ew, _, _, gn, hk, hf, rd => by
    have c : nI L.length ≤ nI k := (zi_le (by omega) (by omega)).mpr (by omega)
    have nx : (nI x).toNatClampNeg = x := zi_nat (by omega)
    have gx : ¬ nI x < 0 := zi_neg (by omega)
    have lx : ¬ 20 ≤ x := by omega
    have ek : k = L.length := by omega
    rw [ek, List.take_length] at rd
    refine ⟨h, EE, ?_, frx.rf h, rd⟩
    simp only [f_X11_build_167, o10, o00, bh, isO, inR, ck_true, bind_some9, Nat.reduceLeDiff, Nat.reduceEqDiff, and_self, and_true, true_and, false_and, and_false, not_false_eq_true, not_true_eq_false, or_self, or_false, false_or, if_true, if_false, reduceIte, RF_o H, RF_1230 H, RO_638 H, RL_638 H, RF_1231 H, RO_639 H, RL_639 H, zR_pE, zT_pE, zL_pE, zn_pE, zE_pE, zI_pE, zR_pI, zT_pI, zL_pI, zn_pI, zE_pI, zI_pI, nx, gx, lx, ew, c]
  | m + 1, k, fuel + 1, h, EE, H, en, ew, h8, hid, gn, hk, hf, rd => by
    have c : ¬ nI L.length ≤ nI k := zi_le0 (by omega) (by omega) (by omega)
    have nx : (nI x).toNatClampNeg = x := zi_nat (by omega)
    have gx : ¬ nI x < 0 := zi_neg (by omega)
    have lx : ¬ 20 ≤ x := by omega
    have nk : (nI (8192 * x + k)).toNatClampNeg = 8192 * x + k := zi_nat (by omega)
    have gk : ¬ nI (8192 * x + k) < 0 := zi_neg (by omega)
    have lk : ¬ 163840 ≤ 8192 * x + k := by omega
    have hkL : k < L.length := by omega
    have hr : L[k]? = some (L[k]'hkL) := List.getElem?_eq_getElem hkL
    have hj : J[k]? = some (J[k]'(by omega)) := List.getElem?_eq_getElem (by omega)
    have i8 := h8 k _ hj
    have idk := hid k _ _ hj hr
    generalize J[k]'(by omega) = i at *
    generalize L[k]'hkL = r at *
    have et : L.take k ++ [r] = L.take (k + 1) := by rw [List.take_add_one, hr]; rfl
    have pre : L.take k ++ [r] <+: L := by rw [et]; exact List.take_prefix _ _
    have lt : (L.take k).length = k := by rw [List.length_take]; omega
    have hVk : lgV vs (L.take k) := lgV_pre vs _ L (List.take_prefix _ _) hV
    have sA := (shReads_st now hVk (L.take k) [] g0 rfl s0 k0).1
    obtain ⟨h1, EE1, e1, f1, rd1⟩ := w_reads H hs hN hV pre hL sA rd gn idk en
    rw [lt] at e1
    rw [et] at rd1
    have es : shRead vs now (shReads vs now ([] : List Rec).length (L.take k) g0) (L.take k).length r = shReads vs now 0 (L.take (k + 1)) g0 := by
      rw [← et, shReads_snoc, Nat.zero_add]
      rfl
    have rd1 : rdAt h1 N s EE1 L (L.take (k + 1)) (shReads vs now 0 (L.take (k + 1)) g0) := by rw [← es]; exact rd1
    obtain ⟨h2, EE2, a1, a2, a3⟩ := w_build_167 (KL := KL) hs hx hL hN hV hJ s0 k0 m (k + 1) fuel h1 EE1 (H.on f1) (by rw [f1.2.2.1 1201 (by unfold rdS; omega)]; exact en) (by rw [f1.2.2.2 639 _ (by unfold rdS; omega)]; exact ew) (fun y i hy => by rw [f1.2.2.2 638 _ (by unfold rdS; omega)]; exact h8 y i hy) (fun y i r hy hr => (hid y i r hy hr).on f1 (fun a i _ => rdS_rec a i)) (fun p hp => by rw [f1.2.2.2 670 _ (rdS_gn p)]; exact gn p hp) (by omega) (by omega) rd1
    refine ⟨h2, EE2, ?_, f1.trans a2, a3⟩
    rw [← a1]
    simp only [f_X11_build_167, o10, o00, bh, isO, inR, ck_true, bind_some9, Nat.reduceLeDiff, Nat.reduceEqDiff, and_self, and_true, true_and, false_and, and_false, not_false_eq_true, not_true_eq_false, or_self, or_false, false_or, if_true, if_false, reduceIte, RF_o H, RF_1230 H, RO_638 H, RL_638 H, RF_1231 H, RO_639 H, RL_639 H, zR_pE, zT_pE, zL_pE, zn_pE, zE_pE, zI_pE, zR_pI, zT_pI, zL_pI, zn_pI, zE_pI, zI_pI, nx, gx, lx, ew, c, zi_big, nk, gk, lk, i8, e1, zi_one]
def gbS (s : Nat) (a j : Nat) : Prop := (a = 616 ∧ 1263 ≤ j ∧ j ≤ 1267) ∨ ((650 ≤ a ∧ a ≤ 652 ∨ 654 ≤ a ∧ a ≤ 660) ∧ j / 16 = s) ∨ (a = 653 ∧ j / 128 = s)
theorem gtS_gb {s n : Nat} (hn : n < 16) : ∀ a j, gtS (16 * s + n) a j → gbS s a j := fun a j q => by
  unfold gtS at q
  rcases q with q | q | q
  · exact Or.inl (by omega)
  · exact Or.inr (Or.inl (by omega))
  · exact Or.inr (Or.inr (by omega))
/-- the rows behind the reading, gone through as far as n -/
def b2At (h : Hp) (now : Int32) (N s : Nat) (EE : Nat → List Nat) (L : List Rec) (g : Shd) (n : Nat) : Prop := (zE h 647 s = nI (shN g) ∧ shN g ≤ 16) ∧ (∀ x, x < 16 → evsAt h N (16 * s + x) (EE x) (bkF (lgB L) x)) ∧ (∀ x, x < shN g → hasW (flE (shF g x)) → zE h 664 (16 * s + x) = (flT (shF g x)).2.2.1 ∧ zE h 661 (16 * s + x) = (flT (shF g x)).2.2.2.1) ∧ (∀ x, x < n → rfF h (16 * s + x) (bkF (lgB L) x) (flP (shF g x)) ∧ rfW h (16 * s + x) (bkF (lgB L) x) (flP (shF g x)) now ∧ zE h 660 (16 * s + x) = if wkP (rpR (flP (shF g x)) (bkF (lgB L) x)) = 0 then 1 else 0) ∧ (∀ x, n ≤ x → x < 16 → zE h 660 (16 * s + x) = 0) ∧ obAt h s ((lgQ L).2.filter (fun m => !gnB L m.1))
theorem w_build_203 {vs : Nat → List Prg} {TX : List (Nat × Nat × Nat × Prg)} {KL : Nat → Int32 → Hp → Option Hp} {now : Int32} {s N : Nat} {L : List Rec} {g : Shd} {EE : Nat → List Nat} (hs : s < 4) (hN : N ≤ 60000) (hV : lgV vs L) (hv : ∀ p, p < 8 → (vs p).length ≤ 4100) (gA : stA vs (lgB L) g) : ∀ (m n fuel : Nat) (h : Hp), RF h → zI h 1201 616 = now → txOK h vs TX → n + m = shN g → m < fuel → b2At h now N s EE L g n → ∃ h1, f_X11_build_203 KL fuel 616 (nI s) (nI n) h = f_X11_build_260 KL fz 616 (nI s) 1 0 h1 ∧ frx (gbS s) h h1 ∧ b2At h1 now N s EE L g (shN g)
  | m, n, 0, h, _, _, _, _, hf, _ => absurd hf (Nat.not_lt_zero _)
  | 0, n, fuel + 1, h, H, en, T, hn, hf, b2 => by
    have c : nI (shN g) ≤ nI n := (zi_le (by have := b2.1.2; omega) (by have := b2.1.2; omega)).mpr (by omega)
    have nx : (nI s).toNatClampNeg = s := zi_nat (by omega)
    have gx : ¬ nI s < 0 := zi_neg (by omega)
    have lx : ¬ 4 ≤ s := by omega
    have ek : n = shN g := by omega
    have e1 := b2.1.1
    refine ⟨h, ?_, frx.rf h, by rw [ek] at b2; exact b2⟩
    simp only [f_X11_build_203, o10, o00, bh, isO, inR, ck_true, bind_some9, Nat.reduceLeDiff, Nat.reduceEqDiff, and_self, and_true, true_and, false_and, and_false, not_false_eq_true, not_true_eq_false, or_self, or_false, false_or, if_true, if_false, reduceIte, RF_o H, RF_1239 H, RO_647 H, RL_647 H, RF_1243 H, RO_651 H, RL_651 H, RF_1252 H, RO_660 H, RL_660 H, zR_pE, zT_pE, zL_pE, zn_pE, zE_pE, zI_pE, zR_pI, zT_pI, zL_pI, zn_pI, zE_pI, zI_pI, nx, gx, lx, e1, c]
  | m + 1, n, fuel + 1, h, H, en, T, hn, hf, b2 => by
    obtain ⟨⟨b1, b16⟩, bev, btr, brf, btk, bob⟩ := id b2
    have c : ¬ nI (shN g) ≤ nI n := zi_le0 (by omega) (by omega) (by omega)
    have nx : (nI s).toNatClampNeg = s := zi_nat (by omega)
    have gx : ¬ nI s < 0 := zi_neg (by omega)
    have lx : ¬ 4 ≤ s := by omega
    have nw : (nI (16 * s + n)).toNatClampNeg = 16 * s + n := zi_nat (by omega)
    have gw : ¬ nI (16 * s + n) < 0 := zi_neg (by omega)
    have lw : ¬ 64 ≤ 16 * s + n := by omega
    have hn16 : n < 16 := by omega
    have hnb : n < bkN (lgB L) := by rw [← gA.1]; omega
    obtain ⟨P, p1, p2, p3, -⟩ := (bkG_log hV).2.1 n hnb
    have pf := gA.2.2 n hnb
    have eP : flP (shF g n) = P := Option.some.inj (pf.2.1.symm.trans p1)
    obtain ⟨h1, e1, f1, rf1, rw1⟩ := w_goThrough (P := flP (shF g n)) (now := now) H T hv (by omega : 16 * s + n < 64) hN (bev n hn16) (by rw [eP]; exact p2) pf.2.1 p3 en
    have H1 := H.on f1
    generalize hv9 : (if wkP (rpR (flP (shF g n)) (bkF (lgB L) n)) = 0 then (1 : Int32) else 0) = v9
    have f2 : frx (fun a j => a = 660 ∧ j = 16 * s + n) h1 (pE h1 660 (16 * s + n) v9) := frx_pE ⟨rfl, rfl⟩
    have f12 : frx (gbS s) h (pE h1 660 (16 * s + n) v9) := (f1.mono (gtS_gb hn16)).trans (f2.mono (fun a j z => Or.inr (Or.inl ⟨by omega, by omega⟩)))
    have b3 : b2At (pE h1 660 (16 * s + n) v9) now N s EE L g (n + 1) := by
      refine ⟨⟨?_, b16⟩, fun x hx => ?_, fun x hx hw => ?_, fun x hx => ?_, fun x g1 g2 => ?_, ?_⟩
      · rw [zE_pE, if_neg (by omega), f1.2.2.2 647 _ (by unfold gtS; omega)]; exact b1
      · exact ((bev x hx).on f1 (fun a i _ => gtS_rec _ a i) (fun a j z => by unfold evS at z; unfold gtS; omega)).on f2 (fun a i _ => by omega) (fun a j z => by unfold evS at z; omega)
      · rw [zE_pE, if_neg (by omega), zE_pE, if_neg (by omega), f1.2.2.2 664 _ (by unfold gtS; omega), f1.2.2.2 661 _ (by unfold gtS; omega)]
        exact btr x hx hw
      · by_cases cx : x = n
        · rw [cx]
          refine ⟨rf1.on f2 (fun a g => by omega) (fun v _ => by omega), rw1.on f2 (fun a g => by omega), ?_⟩
          rw [zE_pE, if_pos ⟨rfl, rfl⟩, hv9]
        · obtain ⟨y1, y2, y3⟩ := brf x (by omega)
          refine ⟨(y1.on f1 (fun a g => by unfold gtS; omega) (fun v hv => by unfold gtS; omega)).on f2 (fun a g => by omega) (fun v _ => by omega), (y2.on f1 (fun a g => by unfold gtS; omega)).on f2 (fun a g => by omega), ?_⟩
          rw [zE_pE, if_neg (by omega), f1.2.2.2 660 _ (by unfold gtS; omega)]; exact y3
      · rw [zE_pE, if_neg (by omega), f1.2.2.2 660 _ (by unfold gtS; omega)]; exact btk x (by omega) g2
      · exact (bob.on f1 (by unfold gtS; omega) (fun a k g1 g2 => by unfold gtS; omega)).on f2 (by omega) (fun a k g1 g2 => by omega)
    obtain ⟨h2, a1, a2, a3⟩ := w_build_203 (KL := KL) hs hN hV hv gA m (n + 1) fuel _ (H.on f12) (by rw [f12.2.2.1 1201 (by unfold gbS; omega)]; exact en) (T.on f12 (fun a j g1 g2 => by unfold gbS; omega)) (by omega) (by omega) b3
    refine ⟨h2, ?_, f12.trans a2, a3⟩
    rw [← a1, ← hv9]
    have e51 := rf1.1.1
    have p5 := rf1.1.2
    have q0 : nI (wkP (rpR (flP (shF g n)) (bkF (lgB L) n))) = (0 : Int32) ↔ wkP (rpR (flP (shF g n)) (bkF (lgB L) n)) = 0 := zi_eq (b := 0) (by omega) (by omega)
    by_cases c0 : wkP (rpR (flP (shF g n)) (bkF (lgB L) n)) = 0
    · have d := eq_true (q0.mpr c0)
      rw [if_pos c0]
      simp only [f_X11_build_203, f_X11_build_248, o10, o00, bh, isO, inR, ck_true, bind_some9, Nat.reduceLeDiff, Nat.reduceEqDiff, and_self, and_true, true_and, false_and, and_false, not_false_eq_true, not_true_eq_false, or_self, or_false, false_or, if_true, if_false, reduceIte, RF_o H, RF_1239 H, RO_647 H, RL_647 H, RF_1243 H, RO_651 H, RL_651 H, RF_1252 H, RO_660 H, RL_660 H, zR_pE, zT_pE, zL_pE, zn_pE, zE_pE, zI_pE, zR_pI, zT_pI, zL_pI, zn_pI, zE_pI, zI_pI, RF_o H1, RF_1243 H1, RO_651 H1, RL_651 H1, RF_1252 H1, RO_660 H1, RL_660 H1, nx, gx, lx, b1, c, zi_16, e1, nw, gw, lw, e51, d, zi_one]
    · have d := eq_false (fun z => c0 (q0.mp z))
      rw [if_neg c0]
      simp only [f_X11_build_203, f_X11_build_248, o10, o00, bh, isO, inR, ck_true, bind_some9, Nat.reduceLeDiff, Nat.reduceEqDiff, and_self, and_true, true_and, false_and, and_false, not_false_eq_true, not_true_eq_false, or_self, or_false, false_or, if_true, if_false, reduceIte, RF_o H, RF_1239 H, RO_647 H, RL_647 H, RF_1243 H, RO_651 H, RL_651 H, RF_1252 H, RO_660 H, RL_660 H, zR_pE, zT_pE, zL_pE, zn_pE, zE_pE, zI_pE, zR_pI, zT_pI, zL_pI, zn_pI, zE_pI, zI_pI, RF_o H1, RF_1243 H1, RO_651 H1, RL_651 H1, RF_1252 H1, RO_660 H1, RL_660 H1, nx, gx, lx, b1, c, zi_16, e1, nw, gw, lw, e51, d, zi_one]
/-- those that can go on do so, one after another -/
theorem w_build_260 {vs : Nat → List Prg} {now : Int32} {TX : List (Nat × Nat × Nat × Prg)} {B K s m : Nat} {KL : Nat → Int32 → Hp → Option Hp} (hs : s < 4) (kl : KLok vs now TX B K s m KL) : ∀ (k n fuel : Nat) (h : Hp) (q : Shd) (C : List Rec), RS vs now TX B K s h q C → shL q ≠ -1 → n + k = shN q → upsN (shZ q) (shD q) ≤ m + 1 → (∀ x, n ≤ x → x < shN q → rfW h (16 * s + x) (flE (shF q x)) (flP (shF q x)) now) → (∀ x, x < n → wkP (flW (shF q x)) ≠ 5) → k + 1 < fuel →
    ∃ h1 E, f_X11_build_260 KL fuel 616 (nI s) 1 (nI n) h = some h1 ∧ frx (fpS s (B + shQ q)) h h1 ∧ C <+: E ∧ RS vs now TX B K s h1 (stl vs now (shAll now k n q)) E ∧ (shL (stl vs now (shAll now k n q)) ≠ -1 → calm (stl vs now (shAll now k n q)))
  | k, n, 0, h, q, C, _, _, _, _, _, _, hf => absurd hf (Nat.not_lt_zero _)
  | 0, n, fuel + 1, h, q, C, R, hl, hk, hm, hw, hc, hf => by
    have hN16 := N16 R.2.1.1
    have H := R.1.1
    have em : zE h 647 s = nI (shN q) := by obtain ⟨-, -, I, EE, -, mn, -⟩ := R; exact mn.1.1
    have c : nI (shN q) ≤ nI n := (zi_le (by omega) (by omega)).mpr (by omega)
    have nx : (nI s).toNatClampNeg = s := zi_nat (by omega)
    have gx : ¬ nI s < 0 := zi_neg (by omega)
    have lx : ¬ 4 ≤ s := by omega
    have e0 : shAll now 0 n q = q := rfl
    rw [e0, stl_off vs now (Or.inl hl)]
    refine ⟨h, C, ?_, frx.rf h, List.prefix_refl _, R, fun _ x hx => hc x (by omega)⟩
    simp only [f_X11_build_260, o10, o00, bh, isO, inR, ck_true, bind_some9, Nat.reduceLeDiff, Nat.reduceEqDiff, and_self, and_true, true_and, false_and, and_false, not_false_eq_true, not_true_eq_false, or_self, or_false, false_or, if_true, if_false, reduceIte, RF_o H, RF_1239 H, RO_647 H, RL_647 H, zR_pE, zT_pE, zL_pE, zn_pE, zE_pE, zI_pE, zR_pI, zT_pI, zL_pI, zn_pI, zE_pI, zI_pI, nx, gx, lx, em, c]
  | k + 1, n, fuel + 1, h, q, C, R, hl, hk, hm, hw, hc, hf => by
    have hI := R.2.1.1
    have hN16 := N16 hI
    have H := R.1.1
    have em : zE h 647 s = nI (shN q) := by obtain ⟨-, -, I, EE, -, mn, -⟩ := R; exact mn.1.1
    have c : ¬ nI (shN q) ≤ nI n := zi_le0 (by omega) (by omega) (by omega)
    have nx : (nI s).toNatClampNeg = s := zi_nat (by omega)
    have gx : ¬ nI s < 0 := zi_neg (by omega)
    have lx : ¬ 4 ≤ s := by omega
    have hn : n < shN q := by omega
    have eA : shAll now (k + 1) n q = shAll now k (n + 1) (shGo now q n) := by
      show (if shWorks q = false then q else _) = _
      rw [if_neg (by unfold shWorks; rw [decide_eq_true hl]; exact fun q => Bool.noConfusion q)]
    obtain ⟨r, h1, E, e1, f1, p1, alt⟩ := w_goesOn hs kl R hl hn hm (hw n (Nat.le_refl _) hn)
    obtain ⟨E2, gI, gG, gN, gw, gl⟩ := shGo_I now hI hl hn
    rw [eA]
    rcases alt with ⟨wl, rr, R1, oth⟩ | ⟨wl, rr, R1, cl⟩
    · obtain ⟨-, d2, d3⟩ := gw wl
      have gu := gG.2.2.2.2.1
      have gz := gG.2.2.1
      have gq := gG.2.2.2.1
      obtain ⟨h2, F, a1, a2, a3, a4, a5⟩ := w_build_260 hs kl k (n + 1) fuel h1 (shGo now q n) E R1 wl (by omega) (by rw [gz]; omega) (fun x g1 g2 => by
        rw [d3 x (by omega)]
        have := hw x (by omega) (by omega)
        unfold rfW at this ⊢
        rw [oth x (by omega) (by omega) 656 (by omega), oth x (by omega) (by omega) 657 (by omega), oth x (by omega) (by omega) 658 (by omega)]
        exact this) (fun x hx => by
        by_cases ex : x = n
        · rw [ex]; exact d2
        · rw [d3 x ex]; exact hc x (by omega)) (by omega)
      refine ⟨h2, F, ?_, f1.trans (a2.mono (fpS_le (by omega))), p1.trans a3, a4, a5⟩
      rw [rr] at e1
      simp only [f_X11_build_260, o10, o00, bh, isO, inR, ck_true, bind_some9, Nat.reduceLeDiff, Nat.reduceEqDiff, and_self, and_true, true_and, false_and, and_false, not_false_eq_true, not_true_eq_false, or_self, or_false, false_or, if_true, if_false, reduceIte, RF_o H, RF_1239 H, RO_647 H, RL_647 H, zR_pE, zT_pE, zL_pE, zn_pE, zE_pE, zI_pE, zR_pI, zT_pI, zL_pI, zn_pI, zE_pI, zI_pI, nx, gx, lx, em, c, zi_16, e1, zi_one, a1]
    · have e2 : shAll now k (n + 1) (shGo now q n) = shGo now q n := by
        cases k with
        | zero => rfl
        | succ k =>
          show (if shWorks (shGo now q n) = false then shGo now q n else _) = _
          rw [if_pos (by unfold shWorks; rw [wl]; rfl)]
      rw [e2]
      obtain ⟨fuel, rfl⟩ : ∃ j, fuel = j + 1 := ⟨fuel - 1, by omega⟩
      refine ⟨h1, E, ?_, f1, p1, R1, cl⟩
      rw [rr] at e1
      have e3 : f_X11_build_260 KL (fuel + 1) 616 (nI s) 0 (nI (n + 1)) h1 = some h1 := by
        unfold f_X11_build_260
        rw [if_pos rfl]
      have e4 : f_X11_build_260 KL (fuel + 1 + 1) 616 (nI s) 1 (nI n) h = f_X11_build_260 KL (fuel + 1) 616 (nI s) 0 (nI (n + 1)) h1 := by
        conv => lhs; unfold f_X11_build_260
        simp only [o10, isO, inR, ck_true, bind_some9, Nat.reduceLeDiff, and_self, or_self, not_false_eq_true, if_false, RF_o H, RF_1239 H, RO_647 H, RL_647 H, nx, gx, lx, em, c, zi_16, e1, zi_one, bh]
      rw [e4, e3]
def blS (s : Nat) (a j : Nat) : Prop := clS s a j ∨ a = 670 ∨ rdS s a j ∨ gbS s a j
theorem blS_fp (s N : Nat) : ∀ a j, blS s a j → fpS s N a j := fun a j z => by
  unfold blS at z
  rcases z with z | z | z | z
  · unfold clS at z
    exact Or.inl (Or.inr (Or.inr (Or.inr (Or.inr (Or.inl (by omega))))))
  · exact Or.inr (Or.inr (Or.inr z))
  · unfold rdS at z
    rcases z with z | z | z | z | z
    · exact Or.inl (Or.inr (Or.inr (Or.inl (by omega))))
    · exact Or.inl (Or.inr (Or.inr (Or.inr (Or.inl (by omega)))))
    · exact Or.inl (Or.inr (Or.inr (Or.inr (Or.inr (Or.inl (by omega))))))
    · exact Or.inl (Or.inr (Or.inr (Or.inl (by omega))))
    · exact Or.inl (Or.inr (Or.inr (Or.inr (Or.inr (Or.inr (Or.inr (by omega)))))))
  · unfold gbS at z
    rcases z with z | z | z
    · exact Or.inr (Or.inr (Or.inl (by omega)))
    · exact Or.inl (Or.inr (Or.inr (Or.inr (Or.inr (Or.inl (by omega))))))
    · exact Or.inl (Or.inr (Or.inr (Or.inr (Or.inr (Or.inr (Or.inl (by omega)))))))
theorem blS_no {s : Nat} {a j : Nat} (h : 617 ≤ a ∧ a ≤ 646) : ¬ blS s a j := fun z => by
  unfold blS clS rdS gbS at z
  omega
theorem w_build_1 {vs : Nat → List Prg} {now : Int32} {TX : List (Nat × Nat × Nat × Prg)} {KL : Nat → Int32 → Hp → Option Hp} {h : Hp} (H : RF h) (en : zI h 1201 616 = now) (T : txOK h vs TX) (hv : ∀ p, p < 8 → (vs p).length ≤ 4100) {N s l : Nat} {I : Nat → List Nat} {e : Shd} {L : List Rec} (hs : s < 4) (hN : N ≤ 60000) (sd : sdAt h N I s (shV e)) (hlZ : l < shZ e) (hlL : shL e = nI l) (hL : dkL (shD e l) = L) (hV : lgV vs L) (hL8 : L.length < 8192) :
    ∃ h1 EE, f_X11_build KL 616 (nI s) h = f_X11_build_260 KL fz 616 (nI s) 1 0 h1 ∧ frx (blS s) h h1 ∧ rsAt h1 N I EE s (shBuild vs now e) ∧ ∀ x, x < shN (shBuild vs now e) → rfW h1 (16 * s + x) (flE (shF (shBuild vs now e) x)) (flP (shF (shBuild vs now e) x)) now := by
  obtain ⟨⟨d1, d2, d3⟩, ⟨d4, d5, d6⟩, d7, d8, d9⟩ := id sd
  have d5 : shZ e ≤ 5 := d5
  have d2 : zE h 645 s = nI l := by rw [d2]; exact hlL
  obtain ⟨⟨-, -, k3, -⟩, ⟨k5, k6⟩, k7, k8, -⟩ := d7 l (by omega)
  rw [vD_lt hlZ, hL] at k3 k5 k8
  have nx : (nI s).toNatClampNeg = s := zi_nat (by omega)
  have gx : ¬ nI s < 0 := zi_neg (by omega)
  have lx : ¬ 4 ≤ s := by omega
  have f0 : frx (fun a j => (a = 647 ∨ a = 665) ∧ j = s) h (pE (pE h 647 s 0) 665 s 0) := (frx_pE ⟨Or.inl rfl, rfl⟩).trans (frx_pE ⟨Or.inr rfl, rfl⟩)
  have e0 : f_X11_build KL 616 (nI s) h = f_X11_build_30 KL fz 616 (nI s) (nI (5 * s + l)) (nI (16 * s + 0)) (pE (pE h 647 s 0) 665 s 0) := by
    have m16 : (16 : Int32) * nI s = nI (16 * s + 0) := zi_mul 16 s
    simp only [f_X11_build, o10, o00, bh, isO, inR, ck_true, bind_some9, Nat.reduceLeDiff, Nat.reduceEqDiff, and_self, and_true, true_and, false_and, and_false, not_false_eq_true, not_true_eq_false, or_self, or_false, false_or, if_true, if_false, reduceIte, RF_o H, RF_1237 H, RO_645 H, RL_645 H, RF_1239 H, RO_647 H, RL_647 H, RF_1257 H, RO_665 H, RL_665 H, zR_pE, zT_pE, zL_pE, zn_pE, zE_pE, zI_pE, zR_pI, zT_pI, zL_pI, zn_pI, zE_pI, zI_pI, nx, gx, lx, d2, zi_five, m16]
  have z47 : zE (pE (pE h 647 s 0) 665 s 0) 647 s = 0 := by rw [zE_pE, if_neg (by omega), zE_pE, if_pos ⟨rfl, rfl⟩]
  have z65 : zE (pE (pE h 647 s 0) 665 s 0) 665 s = 0 := by rw [zE_pE, if_pos ⟨rfl, rfl⟩]
  generalize pE (pE h 647 s 0) 665 s 0 = h0 at *
  obtain ⟨h1, a1, f1, c1⟩ := w_build_30 (KL := KL) (x := nI (5 * s + l)) (now := now) hs 16 0 fz h0 (H.on f0) (by rw [f0.2.2.1 1201 (by omega)]; exact en) (by omega) (fz_big (by omega)) (fun n hn => absurd hn (Nat.not_lt_zero _))
  have f01 : frx (blS s) h h1 := (f0.mono (fun a j z => by unfold blS rdS; omega)).trans (f1.mono (fun a j z => Or.inl z))
  obtain ⟨h2, a2, f2, c2⟩ := w_build_80 (KL := KL) (s := s) (x := 5 * s + l) (by omega) hL8 L.length 0 fz h1 (H.on f01) (by rw [f01.2.2.2 639 _ (blS_no (by omega))]; exact k3) (by omega) (fz_big (by omega)) (fun p hp => absurd hp (Nat.not_lt_zero _))
  have f02 : frx (blS s) h h2 := f01.trans (f2.mono (fun a j z => Or.inr (Or.inl z)))
  have J8 : ∀ {hh : Hp}, frx (blS s) h hh → ∀ (y i : Nat), (I l)[y]? = some i → zE hh 638 (8192 * (5 * s + l) + y) = nI i := fun f y i hy => by rw [f.2.2.2 638 _ (blS_no (by omega))]; exact k7 y i hy
  have Jid : ∀ {hh : Hp}, frx (blS s) h hh → ∀ (y i : Nat) (r : Rec), (I l)[y]? = some i → L[y]? = some r → idAt hh N i r := fun f y i r hy hr => (k8 y i r hy hr).on f (fun a i _ => by
    by_cases c : a < 633 ∨ 637 < a
    · exact Or.inr c
    · exact Or.inl (blS_no (by omega)))
  have J9 : ∀ {hh : Hp}, frx (blS s) h hh → zE hh 639 (5 * s + l) = nI L.length := fun f => by rw [f.2.2.2 639 _ (blS_no (by omega))]; exact k3
  obtain ⟨h3, a3, f3, c3⟩ := w_build_105 (KL := KL) (s := s) (x := 5 * s + l) (N := N) (J := I l) (by omega) hL8 hN hV k5 L.length 0 fz h2 (H.on f02) (J9 f02) (J8 f02) (Jid f02) (by omega) (fz_big (by omega)) (fun p hp => by rw [c2 p hp]; rfl)
  have f03 : frx (blS s) h h3 := f02.trans (f3.mono (fun a j z => Or.inr (Or.inl z)))
  have f13 : frx (fun a _ => a = 670) h1 h3 := f2.trans f3
  have rd0 : rdAt h3 N s (fun _ => []) L (L.take 0) (shReads vs now 0 (L.take 0) (shZ e, shL e, shT e, shD e, 0, shF e, [], shQ e)) := by
    have e47 : zE h3 647 s = nI 0 := by rw [f13.2.2.2 647 _ (show ¬ 647 = 670 by decide), f1.2.2.2 647 _ (by unfold clS; omega), z47]; rfl
    have e65 : zE h3 665 s = nI 0 := by rw [f13.2.2.2 665 _ (show ¬ 665 = 670 by decide), f1.2.2.2 665 _ (by unfold clS; omega), z65]; rfl
    refine ⟨⟨e47, Nat.zero_le _⟩, fun n hn => ?_, fun n hn => ?_, fun n hn => absurd hn (Nat.not_lt_zero _), ⟨e65, Nat.zero_le _, fun k m hk => ?_⟩⟩
    · rw [f13.2.2.2 660 _ (show ¬ 660 = 670 by decide)]; exact (c1 n hn).2
    · refine ⟨?_, ⟨rfl, Nat.zero_le _⟩, fun k i hk => ?_, fun k i f hk => ?_⟩
      · rw [f13.2.2.2 649 _ (show ¬ 649 = 670 by decide), (c1 n hn).1]; rfl
      · rw [List.getElem?_nil] at hk; cases hk
      · rw [List.getElem?_nil] at hk; cases hk
    · have hk : ([] : List (Nat × Nat × Nat))[k]? = some m := hk
      rw [List.getElem?_nil] at hk; cases hk
  have s0 : stA vs (lgB []) (shZ e, shL e, shT e, shD e, 0, shF e, [], shQ e) := ⟨rfl, rfl, fun n hn => absurd hn (Nat.not_lt_zero _)⟩
  have kk0 : stK (shZ e, shL e, shT e, shD e, 0, shF e, [], shQ e) := fun n hn => absurd hn (Nat.not_lt_zero _)
  obtain ⟨h4, EE, a4, f4, rd4⟩ := w_build_167 (KL := KL) (now := now) (J := I l) hs (by omega : 5 * s + l < 20) hL8 hN hV k5 s0 kk0 L.length 0 fz h3 (fun _ => []) (H.on f03) (by rw [f03.2.2.1 1201 (by unfold blS clS rdS gbS; omega)]; exact en) (J9 f03) (J8 f03) (Jid f03) c3 (by omega) (fz_big (by omega)) rd0
  have f04 : frx (blS s) h h4 := f03.trans (f4.mono (fun a j z => Or.inr (Or.inr (Or.inl z))))
  have hlog : shLog e = L := by rw [(shLog_of hlL (by omega)).1, hL]
  obtain ⟨stg, ktg⟩ := shReads_st now hV L [] _ rfl s0 kk0
  have stg : stA vs (lgB L) (shReads vs now 0 L (shZ e, shL e, shT e, shD e, 0, shF e, [], shQ e)) := stg
  have ktg : stK (shReads vs now 0 L (shZ e, shL e, shT e, shD e, 0, shF e, [], shQ e)) := ktg
  have eB : shBuild vs now e = (shZ (shReads vs now 0 L (shZ e, shL e, shT e, shD e, 0, shF e, [], shQ e)), shL (shReads vs now 0 L (shZ e, shL e, shT e, shD e, 0, shF e, [], shQ e)), shT (shReads vs now 0 L (shZ e, shL e, shT e, shD e, 0, shF e, [], shQ e)), shD (shReads vs now 0 L (shZ e, shL e, shT e, shD e, 0, shF e, [], shQ e)), shN (shReads vs now 0 L (shZ e, shL e, shT e, shD e, 0, shF e, [], shQ e)), (fun n => if n < shN (shReads vs now 0 L (shZ e, shL e, shT e, shD e, 0, shF e, [], shQ e)) then (flRun (shF (shReads vs now 0 L (shZ e, shL e, shT e, shD e, 0, shF e, [], shQ e)) n) now).2 else shF (shReads vs now 0 L (shZ e, shL e, shT e, shD e, 0, shF e, [], shQ e)) n), shO (shReads vs now 0 L (shZ e, shL e, shT e, shD e, 0, shF e, [], shQ e)), shQ (shReads vs now 0 L (shZ e, shL e, shT e, shD e, 0, shF e, [], shQ e))) := by unfold shBuild; rw [hlog]
  have same := shReads_same vs now L 0 (shZ e, shL e, shT e, shD e, 0, shF e, [], shQ e)
  generalize shReads vs now 0 L (shZ e, shL e, shT e, shD e, 0, shF e, [], shQ e) = g at *
  obtain ⟨⟨r1, r2⟩, r3, r4, r5, r6⟩ := rd4
  have b2 : b2At h4 now N s EE L g 0 := ⟨⟨r1, r2⟩, r4, r5, fun x hx => absurd hx (Nat.not_lt_zero _), fun x _ hx => r3 x hx, r6⟩
  obtain ⟨h5, a5, f5, b5⟩ := w_build_203 (TX := TX) (KL := KL) hs hN hV hv stg (shN g) 0 fz h4 (H.on f04) (by rw [f04.2.2.1 1201 (by unfold blS clS rdS gbS; omega)]; exact en) (T.on f04 (fun a j g1 g2 => blS_no (by omega))) (by omega) (fz_big (by omega)) b2
  have f05 : frx (blS s) h h5 := f04.trans (f5.mono (fun a j z => Or.inr (Or.inr (Or.inr z))))
  have fl : ∀ x, x < shN g → shF (shBuild vs now e) x = (flP (shF g x), bkF (lgB L) x, rpR (flP (shF g x)) (bkF (lgB L) x), flT (shF g x)) := fun x hx => by
    rw [eB]
    show (if x < shN g then (flRun (shF g x) now).2 else shF g x) = _
    have pf := stg.2.2 x (by rw [← stg.1]; exact hx)
    rw [if_pos hx, flRun_A pf, pf.1]
  have nB : shN (shBuild vs now e) = shN g := by rw [eB]
  obtain ⟨⟨q1, q2⟩, q3, q4, q5, q6, q7⟩ := b5
  refine ⟨h5, EE, ?_, f05, ⟨?_, ?_, ?_, ?_⟩, fun x hx => ?_⟩
  · rw [e0, a1]
    exact (congrArg (fun z => f_X11_build_80 KL fz 616 (nI s) (nI (5 * s + l)) z h1) zi_zero).trans (a2.trans ((congrArg (fun z => f_X11_build_105 KL fz 616 (nI s) (nI (5 * s + l)) z h2) zi_zero).trans (a3.trans ((congrArg (fun z => f_X11_build_167 KL fz 616 (nI s) (nI (5 * s + l)) z h3) zi_zero).trans (a4.trans ((congrArg (fun z => f_X11_build_203 KL fz 616 (nI s) z h4) zi_zero).trans a5))))))
  · refine (sdAt_same (u := shBuild vs now e) sd ?_ ?_ ?_ ?_).on f05 (fun a i _ => ?_) (fun a j z => ?_) (fun a g => blS_no (by omega))
    · exact (shBuild_same vs now e).1
    · exact (shBuild_same vs now e).2.1
    · exact (shBuild_same vs now e).2.2.1
    · exact (shBuild_same vs now e).2.2.2.1
    · by_cases c : a < 633 ∨ 637 < a
      · exact Or.inr c
      · exact Or.inl (blS_no (by omega))
    · obtain ⟨r, -, z⟩ := z
      unfold dkS at z
      exact blS_no (by omega)
  · rw [nB]; exact ⟨⟨q1, q2⟩, q6⟩
  · intro x hx
    rw [nB] at hx
    rw [fl x hx]
    obtain ⟨y1, y2, y3⟩ := q5 x hx
    refine ⟨q3 x (by omega), y1, ?_⟩
    have k0 : (flT (shF g x)).2.2.2.2.1 = 0 := ktg x hx
    unfold tkAt
    show zE h5 660 (16 * s + x) = (if wkP (rpR (flP (shF g x)) (bkF (lgB L) x)) = 0 then (if (flT (shF g x)).2.2.2.2.1 = 0 then 1 else 2) else 0) ∧ (wkP (rpR (flP (shF g x)) (bkF (lgB L) x)) = 0 → (zE h5 661 (16 * s + x) = (flT (shF g x)).2.2.2.1 ∧ zE h5 664 (16 * s + x) = (flT (shF g x)).2.2.1) ∧ ((flT (shF g x)).2.2.2.2.1 ≠ 0 → _))
    rw [if_pos k0]
    refine ⟨y3, fun ph => ⟨?_, fun z => absurd k0 z⟩⟩
    have pf := stg.2.2 x (by rw [← stg.1]; exact hx)
    have hne : 0 < (bkF (lgB L) x).length := by
      obtain ⟨P, -, p2, -⟩ := (bkG_log hV).2.1 x (by rw [← stg.1]; exact hx)
      exact p2.1
    have hw : hasW (flE (shF g x)) := by rw [pf.1]; exact phase_hasW _ hne (Or.inr ph)
    exact ⟨(q4 x hx hw).2, (q4 x hx hw).1⟩
  · have eO : shO (shBuild vs now e) = (lgQ L).2.filter (fun m => !gnB L m.1) := by
      rw [eB]
      show shO g = _
      rw [stg.2.1, (bkO_msgs hV (by omega)).1]
    rw [eO]; exact q7
  · rw [nB] at hx
    rw [fl x hx]
    exact (q5 x hx).2.1
