theorem isB_0 : isB 0 := rfl
theorem isB_1 : isB 1 := rfl
theorem iB0 : isB 0 = True := eq_true rfl
theorem iB1 : isB 1 = True := eq_true rfl
/-! A SHARD AS THE REFERENCE HAS IT -/
/-- disks beyond the replicas count for nothing -/
def shV (q : Shd) : Shd := shSetD q (fun x => if x < shZ q then shD q x else ([], false, -1, 0, (0, 0, 0, 0, 0, 0)))
def tkAt (h : Hp) (w : Nat) (f : Flw) : Prop := zE h 660 w = (if wkP (flW f) = 0 then (if flK f = 0 then 1 else 2) else 0) ∧ (wkP (flW f) = 0 → (zE h 661 w = (flT f).2.2.2.1 ∧ zE h 664 w = (flT f).2.2.1) ∧ (flK f ≠ 0 → zE h 663 w = flK f ∧ zE h 662 w = (flT f).2.2.2.2.2))
def obAt (h : Hp) (s : Nat) (O : List (Nat × Nat × Nat)) : Prop := zE h 665 s = nI O.length ∧ O.length ≤ 1000 ∧ ∀ (k : Nat) (m : Nat × Nat × Nat), O[k]? = some m → zE h 666 (1024 * s + k) = nI m.1 ∧ zE h 667 (1024 * s + k) = nI (16 * s + m.2.1) ∧ zE h 668 (1024 * s + k) = nI m.2.2
def fwAt (h : Hp) (N s : Nat) (EE : Nat → List Nat) (M : Nat) (F : Nat → Flw) : Prop := ∀ n, n < M → evsAt h N (16 * s + n) (EE n) (flE (F n)) ∧ rfF h (16 * s + n) (flE (F n)) (flP (F n)) ∧ tkAt h (16 * s + n) (F n)
def mnAt (h : Hp) (s M : Nat) : Prop := (zE h 647 s = nI M ∧ M ≤ 16) ∧ ∀ n, M ≤ n → n < 16 → zE h 660 (16 * s + n) = 0
def rsAt (h : Hp) (N : Nat) (I EE : Nat → List Nat) (s : Nat) (q : Shd) : Prop := sdAt h N I s (shV q) ∧ mnAt h s (shN q) ∧ fwAt h N s EE (shN q) (shF q) ∧ obAt h s (shO q)
/-- where a shard lies; what all shards use; records from N on -/
def shS (s : Nat) (a j : Nat) : Prop := (639 ≤ a ∧ a ≤ 643 ∧ j / 5 = s) ∨ (a = 638 ∧ j / 40960 = s) ∨ ((a = 644 ∨ a = 645 ∨ a = 646 ∨ a = 647 ∨ a = 665) ∧ j = s) ∨ (a = 648 ∧ j / 960 = s) ∨ ((649 ≤ a ∧ a ≤ 652 ∨ 654 ≤ a ∧ a ≤ 664) ∧ j / 16 = s) ∨ (a = 653 ∧ j / 128 = s) ∨ ((a = 666 ∨ a = 667 ∨ a = 668) ∧ j / 1024 = s)
def shX (N : Nat) (a j : Nat) : Prop := (633 ≤ a ∧ a ≤ 637 ∧ N ≤ j) ∨ (a = 616 ∧ (j = 1224 ∨ 1263 ≤ j ∧ j ≤ 1267)) ∨ a = 670
def fpS (s N : Nat) (a j : Nat) : Prop := shS s a j ∨ shX N a j
theorem fpS_le {s N M : Nat} (h : N ≤ M) : ∀ a j, fpS s M a j → fpS s N a j := fun a j q => by
  rcases q with q | q
  · exact Or.inl q
  · refine Or.inr ?_
    unfold shX at q ⊢
    omega
theorem dsS_sh (s : Nat) : ∀ a j, dsS s a j → shS s a j := fun a j q => by
  obtain ⟨r, hr, q⟩ := q
  unfold dkS at q
  rcases q with ⟨ha, hj⟩ | ⟨ha, hj⟩
  · exact Or.inl (by omega)
  · exact Or.inr (Or.inl ⟨ha, by omega⟩)
theorem gtS_sh {s n : Nat} (hn : n < 16) (N : Nat) : ∀ a j, gtS (16 * s + n) a j → fpS s N a j := fun a j q => by
  unfold gtS at q
  rcases q with ⟨ha, hj⟩ | ⟨ha, hj⟩ | ⟨ha, hj⟩
  · exact Or.inr (Or.inr (Or.inl ⟨ha, by omega⟩))
  · exact Or.inl (Or.inr (Or.inr (Or.inr (Or.inr (Or.inl ⟨by omega, by omega⟩)))))
  · exact Or.inl (Or.inr (Or.inr (Or.inr (Or.inr (Or.inr (Or.inl ⟨ha, by omega⟩))))))
theorem tkAt.on {S : Nat → Nat → Prop} {h h1 : Hp} {w : Nat} {f : Flw} (q : tkAt h w f) (p : frx S h h1) (hs : ∀ a, 660 ≤ a → a ≤ 664 → ¬ S a w) : tkAt h1 w f := by
  have e : ∀ a, 660 ≤ a → a ≤ 664 → zE h1 a w = zE h a w := fun a g1 g2 => p.2.2.2 a w (hs a g1 g2)
  unfold tkAt at q ⊢
  rw [e 660 (by omega) (by omega), e 661 (by omega) (by omega), e 662 (by omega) (by omega), e 663 (by omega) (by omega), e 664 (by omega) (by omega)]
  exact q
theorem rfF.on {S : Nat → Nat → Prop} {h h1 : Hp} {w : Nat} {es : List Evt} {P : Prg} (q : rfF h w es P) (p : frx S h h1) (hs : ∀ a, (a = 651 ∨ a = 652 ∨ a = 654 ∨ a = 655 ∨ a = 659) → ¬ S a w) (hl : ∀ v, v < 8 → ¬ S 653 (8 * w + v)) : rfF h1 w es P := by
  have e : ∀ a, (a = 651 ∨ a = 652 ∨ a = 654 ∨ a = 655 ∨ a = 659) → zE h1 a w = zE h a w := fun a g => p.2.2.2 a w (hs a g)
  unfold rfF at q ⊢
  rw [e 651 (by omega), e 652 (by omega), e 654 (by omega), e 655 (by omega), e 659 (by omega)]
  obtain ⟨q1, q2, q3⟩ := q
  exact ⟨q1, fun v hv => by rw [p.2.2.2 653 _ (hl v hv)]; exact q2 v hv, q3⟩
theorem rfW.on {S : Nat → Nat → Prop} {h h1 : Hp} {w : Nat} {es : List Evt} {P : Prg} {now : Int32} (q : rfW h w es P now) (p : frx S h h1) (hs : ∀ a, (a = 656 ∨ a = 657 ∨ a = 658) → ¬ S a w) : rfW h1 w es P now := by
  have e : ∀ a, (a = 656 ∨ a = 657 ∨ a = 658) → zE h1 a w = zE h a w := fun a g => p.2.2.2 a w (hs a g)
  unfold rfW at q ⊢
  rw [e 656 (by omega), e 657 (by omega), e 658 (by omega)]
  exact q
theorem obAt.on {S : Nat → Nat → Prop} {h h1 : Hp} {s : Nat} {O : List (Nat × Nat × Nat)} (q : obAt h s O) (p : frx S h h1) (h1s : ¬ S 665 s) (h2s : ∀ a k, (a = 666 ∨ a = 667 ∨ a = 668) → k < 1024 → ¬ S a (1024 * s + k)) : obAt h1 s O := by
  obtain ⟨q1, q2, q3⟩ := q
  refine ⟨by rw [p.2.2.2 665 s h1s]; exact q1, q2, fun k m hk => ?_⟩
  have hk1 := (List.getElem?_eq_some_iff.mp hk).1
  obtain ⟨y1, y2, y3⟩ := q3 k m hk
  rw [p.2.2.2 666 _ (h2s 666 k (by omega) (by omega)), p.2.2.2 667 _ (h2s 667 k (by omega) (by omega)), p.2.2.2 668 _ (h2s 668 k (by omega) (by omega))]
  exact ⟨y1, y2, y3⟩
theorem mnAt.on {S : Nat → Nat → Prop} {h h1 : Hp} {s M : Nat} (q : mnAt h s M) (p : frx S h h1) (hs : ¬ S 647 s) (ht : ∀ n, n < 16 → ¬ S 660 (16 * s + n)) : mnAt h1 s M := by
  obtain ⟨⟨q1, q2⟩, q3⟩ := q
  exact ⟨⟨by rw [p.2.2.2 647 s hs]; exact q1, q2⟩, fun n g1 g2 => by rw [p.2.2.2 660 _ (ht n g2)]; exact q3 n g1 g2⟩
theorem sdAt.on {S : Nat → Nat → Prop} {h h1 : Hp} {N s : Nat} {I : Nat → List Nat} {q : Shd} (d : sdAt h N I s q) (p : frx S h h1) (hr : ∀ a i, i < N → ¬ S a i ∨ a < 633 ∨ 637 < a) (hx : ∀ a j, dsS s a j → ¬ S a j) (hs : ∀ a, (a = 644 ∨ a = 645 ∨ a = 646) → ¬ S a s) : sdAt h1 N I s q := by
  obtain ⟨⟨d1, d2, d3⟩, d4, d5, d6⟩ := d
  have e : ∀ a, (a = 644 ∨ a = 645 ∨ a = 646) → zE h1 a s = zE h a s := fun a g => p.2.2.2 a s (hs a g)
  exact ⟨⟨by rw [e _ (by omega)]; exact d1, by rw [e _ (by omega)]; exact d2, by rw [e _ (by omega)]; exact d3⟩, d4, fun r hr5 => (d5 r hr5).on p hr (fun a j z => hx a j ⟨r, hr5, z⟩), d6⟩
theorem sdAt.more {h : Hp} {N N1 s : Nat} {I : Nat → List Nat} {q : Shd} (d : sdAt h N I s q) (hN : N ≤ N1) : sdAt h N1 I s q := ⟨d.1, d.2.1, fun r hr => (d.2.2.1 r hr).more hN, d.2.2.2⟩
theorem evsAt.more {h : Hp} {N N1 w : Nat} {E : List Nat} {es : List Evt} (q : evsAt h N w E es) (hN : N ≤ N1) : evsAt h N1 w E es := by
  obtain ⟨q1, q2, q3, q4⟩ := q
  refine ⟨q1, q2, q3, fun k i e hk he => ?_⟩
  obtain ⟨n, t, a1, a2, a3⟩ := q4 k i e hk he
  exact ⟨n, t, a1, a2, Nat.lt_of_lt_of_le a3.1 hN, a3.2⟩
theorem fwAt.on {S : Nat → Nat → Prop} {h h1 : Hp} {N s M : Nat} {EE : Nat → List Nat} {F : Nat → Flw} (q : fwAt h N s EE M F) (hM : M ≤ 16) (p : frx S h h1) (hr : ∀ a i, i < N → ¬ S a i ∨ a < 633 ∨ 637 < a) (hx : ∀ a j, (649 ≤ a ∧ a ≤ 652 ∨ 654 ≤ a ∧ a ≤ 664) → j / 16 = s → ¬ S a j) (hy : ∀ a j, (a = 648 ∧ j / 960 = s ∨ a = 653 ∧ j / 128 = s) → ¬ S a j) : fwAt h1 N s EE M F := fun n hn => by
  obtain ⟨q1, q2, q3⟩ := q n hn
  exact ⟨q1.on p hr (fun a j z => by
    unfold evS at z
    rcases z with ⟨rfl, z⟩ | ⟨rfl, z⟩
    · exact hx _ _ (by omega) (by omega)
    · exact hy _ _ (by omega)), q2.on p (fun a g => hx _ _ (by omega) (by omega)) (fun v hv => hy _ _ (by omega)), q3.on p (fun a g1 g2 => hx _ _ (by omega) (by omega))⟩
/-- what does not touch a shard leaves it -/
theorem rsAt.on {S : Nat → Nat → Prop} {h h1 : Hp} {N s : Nat} {I EE : Nat → List Nat} {q : Shd} (r : rsAt h N I EE s q) (p : frx S h h1) (hr : ∀ a i, i < N → ¬ S a i ∨ a < 633 ∨ 637 < a) (hs : ∀ a j, shS s a j → ¬ S a j) : rsAt h1 N I EE s q := by
  obtain ⟨r1, r2, r3, r4⟩ := r
  refine ⟨r1.on p hr (fun a j z => hs a j (dsS_sh s a j z)) (fun a g => hs a s (Or.inr (Or.inr (Or.inl ⟨by omega, rfl⟩)))), r2.on p (hs _ _ (Or.inr (Or.inr (Or.inl ⟨by omega, rfl⟩)))) (fun n hn => hs _ _ (Or.inr (Or.inr (Or.inr (Or.inr (Or.inl ⟨by omega, by omega⟩)))))), r3.on r2.1.2 p hr (fun a j g1 g2 => hs a j (Or.inr (Or.inr (Or.inr (Or.inr (Or.inl ⟨g1, g2⟩)))))) (fun a j g => hs a j (g.elim (fun z => Or.inr (Or.inr (Or.inr (Or.inl z)))) (fun z => Or.inr (Or.inr (Or.inr (Or.inr (Or.inr (Or.inl z)))))))), r4.on p (hs _ _ (Or.inr (Or.inr (Or.inl ⟨by omega, rfl⟩)))) (fun a k g1 g2 => hs _ _ (Or.inr (Or.inr (Or.inr (Or.inr (Or.inr (Or.inr ⟨g1, by omega⟩)))))))⟩
theorem rsAt.more {h : Hp} {N N1 s : Nat} {I EE : Nat → List Nat} {q : Shd} (r : rsAt h N I EE s q) (hN : N ≤ N1) : rsAt h N1 I EE s q := ⟨r.1.more hN, r.2.1, fun n hn => ⟨(r.2.2.1 n hn).1.more hN, (r.2.2.1 n hn).2⟩, r.2.2.2⟩
theorem shS_ne {s t : Nat} (h : s ≠ t) (N : Nat) : ∀ a j, shS s a j → ¬ fpS t N a j := fun a j q z => by
  unfold shS at q
  unfold fpS shS shX at z
  rcases q with q | q | q | q | q | q | q <;> rcases z with (z | z | z | z | z | z | z) | (z | z | z) <;> omega
theorem fpS_rec {s N : Nat} : ∀ a i, i < N → ¬ fpS s N a i ∨ a < 633 ∨ 637 < a := fun a i hi => by
  by_cases c : a < 633 ∨ 637 < a
  · exact Or.inr c
  · refine Or.inl (fun z => ?_)
    unfold fpS shS shX at z
    rcases z with (z | z | z | z | z | z | z) | (z | z | z) <;> omega
/-! A RECORD IS DONE, OR NOT -/
theorem fr_new (h : Hp) (s N : Nat) (n k t a b c : Int32) : frx (fpS s N) h (pI (pE (pE (pE (pE (pE h 633 N (16 * n + k)) 634 N t) 635 N a) 636 N b) 637 N c) 1224 616 (nI (N + 1))) := by
  have g : ∀ a, 633 ≤ a → a ≤ 637 → fpS s N a N := fun a g1 g2 => Or.inr (Or.inl ⟨g1, g2, Nat.le_refl _⟩)
  exact (((((frx_pE (g 633 (by omega) (by omega))).trans (frx_pE (g 634 (by omega) (by omega)))).trans (frx_pE (g 635 (by omega) (by omega)))).trans (frx_pE (g 636 (by omega) (by omega)))).trans (frx_pE (g 637 (by omega) (by omega)))).trans (frx_pI (Or.inr (Or.inr (Or.inl ⟨rfl, Or.inl rfl⟩))))
theorem rc_new (h : Hp) (N : Nat) {n k t : Nat} (a b c : Int32) : rcAt (pI (pE (pE (pE (pE (pE h 633 N (16 * nI n + nI k)) 634 N (nI t)) 635 N a) 636 N b) 637 N c) 1224 616 (nI (N + 1))) N (n, k, t, a, b, c) := by
  refine ⟨?_, ?_, ?_, ?_, ?_⟩
  · rw [zE_pI, zE_pE, if_neg (by omega), zE_pE, if_neg (by omega), zE_pE, if_neg (by omega), zE_pE, if_neg (by omega), zE_pE, if_pos ⟨rfl, rfl⟩, show (16 : Int32) = nI 16 from rfl, zi_mul, zi_add]
  · rw [zE_pI, zE_pE, if_neg (by omega), zE_pE, if_neg (by omega), zE_pE, if_neg (by omega), zE_pE, if_pos ⟨rfl, rfl⟩]
  · rw [zE_pI, zE_pE, if_neg (by omega), zE_pE, if_neg (by omega), zE_pE, if_pos ⟨rfl, rfl⟩]
  · rw [zE_pI, zE_pE, if_neg (by omega), zE_pE, if_pos ⟨rfl, rfl⟩]
  · rw [zE_pI, zE_pE, if_pos ⟨rfl, rfl⟩]
/-- where a new record lies -/
def nrS (N : Nat) (a j : Nat) : Prop := (633 ≤ a ∧ a ≤ 637 ∧ j = N) ∨ (a = 616 ∧ j = 1224)
def dwS (s N : Nat) (a j : Nat) : Prop := nrS N a j ∨ dsS s a j
theorem dwS_fp (s N : Nat) : ∀ a j, dwS s N a j → fpS s N a j := fun a j q => by
  rcases q with q | q
  · unfold nrS at q
    rcases q with q | q
    · exact Or.inr (Or.inl (by omega))
    · exact Or.inr (Or.inr (Or.inl (by omega)))
  · exact Or.inl (dsS_sh s a j q)
theorem fr_nr (h : Hp) (N : Nat) (n k t a b c : Int32) : frx (nrS N) h (pI (pE (pE (pE (pE (pE h 633 N (16 * n + k)) 634 N t) 635 N a) 636 N b) 637 N c) 1224 616 (nI (N + 1))) := by
  have g : ∀ a, 633 ≤ a → a ≤ 637 → nrS N a N := fun a g1 g2 => Or.inl ⟨g1, g2, rfl⟩
  exact (((((frx_pE (g 633 (by omega) (by omega))).trans (frx_pE (g 634 (by omega) (by omega)))).trans (frx_pE (g 635 (by omega) (by omega)))).trans (frx_pE (g 636 (by omega) (by omega)))).trans (frx_pE (g 637 (by omega) (by omega)))).trans (frx_pI (Or.inr ⟨rfl, rfl⟩))
/-- no log has a record of this term behind what is done -/
theorem ShR_fresh {V : List Rec → Prop} {q : Shd} {C : List Rec} (hR : ShR V q C) (hl : shL q ≠ -1) {x : Nat} (hx : x < shZ q) {r : Rec} (hr : (dkL (shD q x))[C.length]? = some r) : rcT r ≠ shT q := fun e => by
  obtain ⟨-, P, Q, ⟨hG, -⟩, hX, -, -, hW⟩ := hR
  obtain ⟨l, -, hP, hC⟩ := hW hl
  have := (lgX_at hG (hX x hx) hr).2
  rw [e, hP, ← hC] at this
  have h1 := this.length_le
  have h2 := (List.getElem?_eq_some_iff.mp hr).1
  rw [List.length_take] at h1
  omega
theorem vD_lt {q : Shd} {x : Nat} (hx : x < shZ q) : shD (shV q) x = shD q x := if_pos hx
theorem vD_ge {q : Shd} {x : Nat} (hx : ¬ x < shZ q) : shD (shV q) x = ([], false, -1, 0, (0, 0, 0, 0, 0, 0)) := if_neg hx
theorem sd_len {h : Hp} {N s : Nat} {I : Nat → List Nat} {q : Shd} (d : sdAt h N I s (shV q)) {B : Nat} (hb : ∀ x, x < shZ q → (dkL (shD q x)).length ≤ B) : ∀ r, r < 5 → (I r).length ≤ B := fun r hr => by
  have := (d.2.2.1 r hr).2.1.1
  rw [this]
  by_cases c : r < shZ q
  · rw [vD_lt c]; exact hb r c
  · rw [vD_ge c]; exact Nat.zero_le _
/-- a record is made and spread -/
theorem w_does {vs : Nat → List Prg} {KL : Nat → Int32 → Hp → Option Hp} {h : Hp} (H : RF h) {N s : Nat} {I : Nat → List Nat} {q : Shd} {C : List Rec} (hs : s < 4) (hN : zI h 1224 616 = nI N) (hN6 : N < 59999) (sd : sdAt h N I s (shV q)) (hI : ShI vs q C) (hl : shL q ≠ -1) (hQ : shQ q < 8000) (k n : Nat) (a b c : Int32) :
    ∃ h1 I1, frx (dwS s N) h h1 ∧ zI h1 1224 616 = nI (N + 1) ∧ rcAt h1 N (n, k, shT q, a, b, c) ∧
      (((shCommit q k n a b c).1 = true ∧ f_X11_does KL 616 (nI s) (nI n) (nI k) a b c h = some (1, h1) ∧ sdAt h1 (N + 1) I1 s (shV (shCommit q k n a b c).2) ∧ (∃ l, l < shZ q ∧ shL q = nI l ∧ I1 l = I l ++ [N] ∧ (I l).length = C.length)) ∨
       ((shCommit q k n a b c).1 = false ∧ ∃ D1, f_X11_does KL 616 (nI s) (nI n) (nI k) a b c h = (KL 616 (nI s) h1).bind (fun z => some (0, z)) ∧ sdAt h1 (N + 1) I1 s (shV (shSetD (shTried q) D1)) ∧ (shCommit q k n a b c).2 = shLose (shSetD (shTried q) D1))) := by
  obtain ⟨l, ⟨w1, w2, w3, w4, w5⟩, hC⟩ := hI.w hl
  have h5 := hI.1.1
  obtain ⟨b1, b2, b3⟩ := hI.2.2.1
  obtain ⟨⟨d1, d2, d3⟩, ⟨d4, d5, d6⟩, d7, d8, d9⟩ := id sd
  have lens := sd_len sd (B := shQ q) (fun x hx => (b2 x hx).1)
  have nx : (nI s).toNatClampNeg = s := zi_nat (by omega)
  have gx : ¬ nI s < 0 := zi_neg (by omega)
  have lx : ¬ 4 ≤ s := by omega
  generalize hrc : ((n, k, shT q, a, b, c) : Rec) = rc
  have enr := x_newRecord (n := nI n) (k := nI k) (t := nI (shT q)) (a := a) (b := b) (c := c) H hN (by omega)
  have f0 := fr_nr h N (nI n) (nI k) (nI (shT q)) a b c
  have rc0 := rc_new h N (n := n) (k := k) (t := shT q) a b c
  rw [hrc] at rc0
  have en0 : zI (pI (pE (pE (pE (pE (pE h 633 N (16 * nI n + nI k)) 634 N (nI (shT q))) 635 N a) 636 N b) 637 N c) 1224 616 (nI (N + 1))) 1224 616 = nI (N + 1) := by rw [zI_pI, if_pos ⟨rfl, rfl⟩]
  generalize pI (pE (pE (pE (pE (pE h 633 N (16 * nI n + nI k)) 634 N (nI (shT q))) 635 N a) 636 N b) 637 N c) 1224 616 (nI (N + 1)) = h0 at *
  have H0 := H.on f0
  have ds0 : dsAt h0 (N + 1) I s (shD (shV q)) := fun r hr => ((d7 r hr).on f0 (fun a i hi => by unfold nrS; omega) (fun a j z => by unfold dkS at z; unfold nrS; omega)).more (Nat.le_succ _)
  have hz0 : zE h0 644 s = nI (shZ q) := by rw [f0.2.2.2 644 s (by unfold nrS; omega)]; exact d1
  have vl : shD (shV q) l = shD q l := vD_lt w1
  have key : ∀ (r : Int32) (h1 : Hp), f_X11_spread 616 (nI s) (nI l) (nI N) h0 = some (r, h1) → frx (dsS s) h0 h1 → f_X11_does KL 616 (nI s) (nI n) (nI k) a b c h = if r = 0 then (KL 616 (nI s) h1).bind (fun z => some (0, z)) else some (1, h1) := fun r h1 e f => by
    have d2 : zE h 645 s = nI l := by rw [d2]; exact w2
    have d3 : zE h 646 s = nI (shT q) := d3
    have H1 := H0.on f
    by_cases c0 : r = 0
    · rw [if_pos c0]
      rw [c0] at e
      simp only [f_X11_does, o10, o00, bh, isO, inR, ck_true, bind_some9, Nat.reduceLeDiff, Nat.reduceEqDiff, and_self, and_true, true_and, false_and, and_false, not_false_eq_true, not_true_eq_false, or_self, or_false, false_or, if_true, if_false, reduceIte, RF_o H, RF_1237 H, RO_645 H, RL_645 H, RF_1238 H, RO_646 H, RL_646 H, zR_pE, zT_pE, zL_pE, zn_pE, zE_pE, zI_pE, zR_pI, zT_pI, zL_pI, zn_pI, zE_pI, zI_pI, nx, gx, lx, d2, d3, enr, RF_o H0, RF_o H1, e]
    · rw [if_neg c0]
      simp only [f_X11_does, o10, o00, bh, isO, inR, ck_true, bind_some9, Nat.reduceLeDiff, Nat.reduceEqDiff, and_self, and_true, true_and, false_and, and_false, not_false_eq_true, not_true_eq_false, or_self, or_false, false_or, if_true, if_false, reduceIte, RF_o H, RF_1237 H, RO_645 H, RL_645 H, RF_1238 H, RO_646 H, RL_646 H, zR_pE, zT_pE, zL_pE, zn_pE, zE_pE, zI_pE, zR_pI, zT_pI, zL_pI, zn_pI, zE_pI, zI_pI, nx, gx, lx, d2, d3, enr, RF_o H0, RF_o H1, e, c0]
  have rest : ∀ (h1 : Hp) (D1 : Nat → Dk) (I1 : Nat → List Nat), frx (dsS s) h0 h1 → dsAt h1 (N + 1) I1 s (shD (shV (shSetD (shTried q) D1))) → uqI I1 (shD (shV (shSetD (shTried q) D1))) → (∀ x, x < shZ q → dkOK (D1 x)) → frx (dwS s N) h h1 ∧ zI h1 1224 616 = nI (N + 1) ∧ rcAt h1 N rc ∧ sdAt h1 (N + 1) I1 s (shV (shSetD (shTried q) D1)) := fun h1 D1 I1 f ds uq ok => by
    have ft : frx (dwS s N) h h1 := (f0.mono (fun a j z => Or.inl z)).trans (f.mono (fun a j z => Or.inr z))
    have e9 : ∀ a, (a = 644 ∨ a = 645 ∨ a = 646) → zE h1 a s = zE h a s := fun a g => ft.2.2.2 a s (fun z => by
      rcases z with z | ⟨r, -, z⟩
      · unfold nrS at z; omega
      · unfold dkS at z; omega)
    refine ⟨ft, ?_, rc0.on f (fun a => dsS_rec s a N), ⟨⟨by rw [e9 _ (by omega)]; exact d1, by rw [e9 _ (by omega)]; exact d2, by rw [e9 _ (by omega)]; exact d3⟩, ⟨d4, d5, d6⟩, ds, uq, fun r hr => ?_⟩⟩
    · rw [f.2.2.1 1224 (fun z => by obtain ⟨r, -, z⟩ := z; unfold dkS at z; omega)]; exact en0
    · by_cases cr : r < shZ q
      · rw [show shD (shV (shSetD (shTried q) D1)) r = D1 r from if_pos cr]; exact ok r cr
      · rw [show shD (shV (shSetD (shTried q) D1)) r = ([], false, -1, 0, (0, 0, 0, 0, 0, 0)) from if_neg cr]
        intro z; cases z
  have hcm := shCommit_or w2 (by omega) k n a b c
  rw [hrc] at hcm
  rcases w_spread H0 (Z := shZ q) hs h5 w1 (by omega : N + 1 ≤ 60000) hz0 ds0 (fun r hr => by have := lens r hr; omega) d9 (by rw [vl]; exact w3) (Nat.lt_succ_self N) rc0 with ⟨u1, h1, e1, f1, a1⟩ | ⟨u1, h1, e1, f1, a1⟩
  · rw [vl] at u1
    have cm : shCommit q k n a b c = (false, shLose (shSetD (shTried q) (upf (shD q) l (dkWrite (shD q l) rc)))) := by
      rcases hcm with ⟨-, z⟩ | ⟨z, -⟩ | ⟨z, -⟩
      · exact z
      · rw [u1] at z; cases z
      · rw [u1] at z; cases z
    have eD : shD (shV (shSetD (shTried q) (upf (shD q) l (dkWrite (shD q l) rc)))) = upf (shD (shV q)) l (dkWrite (shD (shV q) l) rc) := by
      funext x
      rw [vl]
      by_cases cx : x < shZ q
      · rw [show shD (shV (shSetD (shTried q) (upf (shD q) l (dkWrite (shD q l) rc)))) x = upf (shD q) l (dkWrite (shD q l) rc) x from if_pos cx]
        unfold upf
        split
        · rfl
        · exact (vD_lt cx).symm
      · rw [show shD (shV (shSetD (shTried q) (upf (shD q) l (dkWrite (shD q l) rc)))) x = ([], false, -1, 0, (0, 0, 0, 0, 0, 0)) from if_neg cx]
        rw [show upf (shD (shV q)) l (dkWrite (shD q l) rc) x = shD (shV q) x from if_neg (by omega)]
        exact (vD_ge cx).symm
    have uq : uqI I (upf (shD (shV q)) l (dkWrite (shD (shV q) l) rc)) := fun x y hx hy => by
      have eL : ∀ x, dkL (upf (shD (shV q)) l (dkWrite (shD (shV q) l) rc) x) = dkL (shD (shV q) x) := fun x => by
        by_cases cx : x = l
        · rw [show upf (shD (shV q)) l _ x = _ from if_pos cx, cx]
          rcases dkWrite_or (shD (shV q) l) rc with ⟨z, -⟩ | ⟨-, z⟩
          · rw [vl, u1] at z; cases z
          · exact z
        · rw [show upf (shD (shV q)) l _ x = _ from if_neg cx]
      rw [eL, eL]; exact d8 x y hx hy
    obtain ⟨z1, z2, z3, z4⟩ := rest h1 (upf (shD q) l (dkWrite (shD q l) rc)) I f1 (by rw [eD]; exact a1) (by rw [eD]; exact uq) (fun x hx => by
      unfold upf
      split
      · exact dkOK_write rc (b2 l w1).2.1
      · exact (b2 x hx).2.1)
    exact ⟨h1, I, z1, z2, z3, Or.inr ⟨by rw [cm], _, by rw [key 0 h1 e1 f1, if_pos rfl], z4, by rw [cm]⟩⟩
  · rw [vl] at u1
    have eD : shD (shV (shSetD (shTried q) (shSpread q l rc))) = spD (shD (shV q)) l rc (shZ q) := by
      funext x
      by_cases cx : x < shZ q
      · rw [show shD (shV (shSetD (shTried q) (shSpread q l rc))) x = shSpread q l rc x from if_pos cx, shSpread_any q rc cx]
        unfold spD
        rw [if_pos (Or.inr cx), vD_lt cx]
      · rw [show shD (shV (shSetD (shTried q) (shSpread q l rc))) x = ([], false, -1, 0, (0, 0, 0, 0, 0, 0)) from if_neg cx]
        unfold spD
        rw [if_neg (by omega)]
        exact (vD_ge cx).symm
    have uq : uqI (spI (shD (shV q)) I l rc N (shZ q)) (spD (shD (shV q)) l rc (shZ q)) := by
      refine uq_spread d8 h5 w1 (by rw [vl]; exact w3) (fun x hx hu => ?_) (fun x hx j hj => ?_) (fun x hx r hr => ?_)
      · rw [vD_lt hx] at hu ⊢
        rw [vl]; exact w4 x hx hu
      · obtain ⟨y, hy⟩ := List.getElem?_of_mem hj
        obtain ⟨-, ⟨le, -⟩, -, ids, -⟩ := d7 x hx
        have yl := (List.getElem?_eq_some_iff.mp hy).1
        have := (ids y j _ hy (List.getElem?_eq_getElem (by omega))).1
        omega
      · rw [vl, ← hC] at hr
        by_cases cx : x < shZ q
        · rw [vD_lt cx] at hr
          intro e
          refine ShR_fresh hI.1 hl cx hr ?_
          rw [e, ← hrc]
        · rw [vD_ge cx] at hr
          have hr : ([] : List Rec)[C.length]? = some r := hr
          rw [List.getElem?_nil] at hr
          cases hr
    have eW : ((List.range (shZ q)).filter (fun x => dkU (spD (shD (shV q)) l rc (shZ q) x))).length = ((List.range (shZ q)).filter (fun r => dkU (shSpread q l rc r))).length := by
      congr 1
      refine List.filter_congr (fun x hx => ?_)
      have hx := List.mem_range.mp hx
      rw [← eD, show shD (shV (shSetD (shTried q) (shSpread q l rc))) x = shSpread q l rc x from if_pos hx]
    rw [eW] at e1
    obtain ⟨z1, z2, z3, z4⟩ := rest h1 (shSpread q l rc) (spI (shD (shV q)) I l rc N (shZ q)) f1 (by rw [eD]; exact a1) (by rw [eD]; exact uq) (fun x hx => (shSpread_dn q l rc x hx).2.2 (b2 x hx).2.1)
    have em := shMost_iff (shSetD (shTried q) (shSpread q l rc))
    by_cases cm : shZ q < 2 * ((List.range (shZ q)).filter (fun r => dkU (shSpread q l rc r))).length
    · have hm : shMost (shSetD (shTried q) (shSpread q l rc)) = true := em.mpr cm
      have cmt : shCommit q k n a b c = (true, shSetD (shTried q) (shSpread q l rc)) := by
        rcases hcm with ⟨z, -⟩ | ⟨-, -, z⟩ | ⟨-, z, -⟩
        · rw [u1] at z; cases z
        · exact z
        · rw [hm] at z; cases z
      rw [if_pos cm] at e1
      refine ⟨h1, spI (shD (shV q)) I l rc N (shZ q), z1, z2, z3, Or.inl ⟨by rw [cmt], by rw [key 1 h1 e1 f1, if_neg (by decide)], by rw [cmt]; exact z4, l, w1, w2, ?_, ?_⟩⟩
      · unfold spI
        rw [if_pos ⟨Or.inl rfl, by rw [vl]; exact u1⟩]
      · rw [(d7 l (by omega)).2.1.1, vl, ← hC]
    · have hm : shMost (shSetD (shTried q) (shSpread q l rc)) = false := by
        cases hm : shMost (shSetD (shTried q) (shSpread q l rc)) with
        | false => rfl
        | true => exact absurd (em.mp hm) cm
      have cmt : shCommit q k n a b c = (false, shLose (shSetD (shTried q) (shSpread q l rc))) := by
        rcases hcm with ⟨z, -⟩ | ⟨-, z, -⟩ | ⟨-, -, z⟩
        · rw [u1] at z; cases z
        · rw [hm] at z; cases z
        · exact z
      rw [if_neg cm] at e1
      exact ⟨h1, _, z1, z2, z3, Or.inr ⟨by rw [cmt], _, by rw [key 0 h1 e1 f1, if_pos rfl], z4, by rw [cmt]⟩⟩
/-! AN EVENT IS KEPT -/
def kpS (w s L M : Nat) (a j : Nat) : Prop := (a = 648 ∧ j = 60 * w + L) ∨ (a = 649 ∧ j = w) ∨ (a = 665 ∧ j = s) ∨ ((a = 666 ∨ a = 667 ∨ a = 668) ∧ j = 1024 * s + M)
theorem kpS_sh {s n L M : Nat} (hn : n < 16) (hL : L < 60) (hM : M < 1024) : ∀ a j, kpS (16 * s + n) s L M a j → shS s a j := fun a j q => by
  unfold kpS at q
  rcases q with q | q | q | q
  · exact Or.inr (Or.inr (Or.inr (Or.inl (by omega))))
  · exact Or.inr (Or.inr (Or.inr (Or.inr (Or.inl (by omega)))))
  · exact Or.inr (Or.inr (Or.inl (by omega)))
  · exact Or.inr (Or.inr (Or.inr (Or.inr (Or.inr (Or.inr (by omega))))))
theorem zi_16d {s n : Nat} (hs : s < 4) (hn : n < 16) : nI (16 * s + n) / (16 : Int32) = nI s := by
  rw [show (16 : Int32) = nI 16 from rfl, zi_div (by omega) (by omega) (by omega), show (16 * s + n) / 16 = s by omega]
theorem zi_16m {s n : Nat} (hs : s < 4) (hn : n < 16) : nI (16 * s + n) - nI s * (16 : Int32) = nI n := by
  rw [show (16 : Int32) = nI 16 from rfl, zi_mul, zi_sub (by omega)]
  congr 1
  omega
theorem zi_1024 (s k : Nat) : (1024 : Int32) * nI s + nI k = nI (1024 * s + k) := by rw [show (1024 : Int32) = nI 1024 from rfl, zi_mul, zi_add]
theorem w_keep69 {h : Hp} (H : RF h) {s n M L p : Nat} (hs : s < 4) (hn : n < 16) (hM : M < 1024) (hL : L < 60) (hp : p < 100000) (e1 : zE h 665 s = nI M) (e2 : zE h 649 (16 * s + n) = nI (L + 1)) : f_X11_keep_69 1 616 (nI (16 * s + n)) (nI p) h = some (pE (pE (pE (pE h 666 (1024 * s + M) (nI p)) 667 (1024 * s + M) (nI (16 * s + n))) 668 (1024 * s + M) (nI L)) 665 s (nI (M + 1))) := by
  have nx : (nI s).toNatClampNeg = s := zi_nat (by omega)
  have gx : ¬ nI s < 0 := zi_neg (by omega)
  have lx : ¬ 4 ≤ s := by omega
  have nw : (nI (16 * s + n)).toNatClampNeg = 16 * s + n := zi_nat (by omega)
  have gw : ¬ nI (16 * s + n) < 0 := zi_neg (by omega)
  have lw : ¬ 64 ≤ 16 * s + n := by omega
  have nk : (nI (1024 * s + M)).toNatClampNeg = 1024 * s + M := zi_nat (by omega)
  have gk : ¬ nI (1024 * s + M) < 0 := zi_neg (by omega)
  have lk : ¬ 4096 ≤ 1024 * s + M := by omega
  have n1 : ¬ nI p = -1 := zi_ne1 (by omega)
  have e3 : nI (L + 1) - 1 = nI L := zi_sub (b := 1) (by omega)
  have d16 := zi_16d hs hn
  simp only [f_X11_keep_69, o10, o00, bh, isO, inR, ck_true, bind_some9, Nat.reduceLeDiff, Nat.reduceEqDiff, and_self, and_true, true_and, false_and, and_false, not_false_eq_true, not_true_eq_false, or_self, or_false, false_or, if_true, if_false, reduceIte, RF_o H, RF_1241 H, RO_649 H, RL_649 H, RF_1257 H, RO_665 H, RL_665 H, RF_1258 H, RO_666 H, RL_666 H, RF_1259 H, RO_667 H, RL_667 H, RF_1260 H, RO_668 H, RL_668 H, zR_pE, zT_pE, zL_pE, zn_pE, zE_pE, zI_pE, zR_pI, zT_pI, zL_pI, zn_pI, zE_pI, zI_pI, n1, d16, nx, gx, lx, e1, zi_1024, nk, gk, lk, nw, gw, lw, e2, e3, zi_one]
theorem w_keep_at {h : Hp} (H : RF h) {w L i K : Nat} {pl : Int32} (hw : w < 64) (hL : L < 60) (e1 : zE h 649 w = nI L) (eK : f_X11_kindOf 616 (nI i) h = some (nI K, h)) (hK : K < 16) {o : Int32} (hp : 10 ≤ K → f_X11_parent 616 (nI w) (pE (pE h 648 (60 * w + L) (nI i)) 649 w (nI (L + 1))) = some (if o < 0 then (-1 - o) / 64 else -1, pE (pE h 648 (60 * w + L) (nI i)) 649 w (nI (L + 1)))) :
    f_X11_keep 616 (nI w) (nI i) pl h = f_X11_keep_69 (if K = 6 ∨ K = 9 ∨ (10 ≤ K ∧ o < 0) then 1 else 0) 616 (nI w) pl (pE (pE h 648 (60 * w + L) (nI i)) 649 w (nI (L + 1))) := by
  have nw : (nI w).toNatClampNeg = w := zi_nat (by omega)
  have gw : ¬ nI w < 0 := zi_neg (by omega)
  have lw : ¬ 64 ≤ w := by omega
  have nk : (nI (60 * w + L)).toNatClampNeg = 60 * w + L := zi_nat (by omega)
  have gk : ¬ nI (60 * w + L) < 0 := zi_neg (by omega)
  have lk : ¬ 3840 ≤ 60 * w + L := by omega
  have k6 : nI K = (6 : Int32) ↔ K = 6 := zi_eq (b := 6) (by omega) (by omega)
  have k9 : nI K = (9 : Int32) ↔ K = 9 := zi_eq (b := 9) (by omega) (by omega)
  have k10 : nI K < (10 : Int32) ↔ K < 10 := zi_lt (b := 10) (by omega) (by omega)
  by_cases c6 : K = 6
  · rw [if_pos (Or.inl c6)]
    have d6 := eq_true (k6.mpr c6)
    simp only [f_X11_keep, f_X11_keep_64, o10, o00, bh, isO, inR, ck_true, bind_some9, Nat.reduceLeDiff, Nat.reduceEqDiff, and_self, and_true, true_and, false_and, and_false, not_false_eq_true, not_true_eq_false, or_self, or_false, false_or, if_true, if_false, reduceIte, RF_o H, RF_1240 H, RO_648 H, RL_648 H, RF_1241 H, RO_649 H, RL_649 H, zR_pE, zT_pE, zL_pE, zn_pE, zE_pE, zI_pE, zR_pI, zT_pI, zL_pI, zn_pI, zE_pI, zI_pI, eK, nw, gw, lw, e1, zi_60, nk, gk, lk, zi_one, d6]
  · have d6 := eq_false (fun z => c6 (k6.mp z))
    by_cases c9 : K = 9
    · rw [if_pos (Or.inr (Or.inl c9))]
      have d9 := eq_true (k9.mpr c9)
      simp only [f_X11_keep, f_X11_keep_64, o10, o00, bh, isO, inR, ck_true, bind_some9, Nat.reduceLeDiff, Nat.reduceEqDiff, and_self, and_true, true_and, false_and, and_false, not_false_eq_true, not_true_eq_false, or_self, or_false, false_or, if_true, if_false, reduceIte, RF_o H, RF_1240 H, RO_648 H, RL_648 H, RF_1241 H, RO_649 H, RL_649 H, zR_pE, zT_pE, zL_pE, zn_pE, zE_pE, zI_pE, zR_pI, zT_pI, zL_pI, zn_pI, zE_pI, zI_pI, eK, nw, gw, lw, e1, zi_60, nk, gk, lk, zi_one, d6, d9]
    · have d9 := eq_false (fun z => c9 (k9.mp z))
      by_cases c10 : K < 10
      · rw [if_neg (by omega)]
        have d10 := eq_true (k10.mpr c10)
        simp only [f_X11_keep, f_X11_keep_68, o10, o00, bh, isO, inR, ck_true, bind_some9, Nat.reduceLeDiff, Nat.reduceEqDiff, and_self, and_true, true_and, false_and, and_false, not_false_eq_true, not_true_eq_false, or_self, or_false, false_or, if_true, if_false, reduceIte, RF_o H, RF_1240 H, RO_648 H, RL_648 H, RF_1241 H, RO_649 H, RL_649 H, zR_pE, zT_pE, zL_pE, zn_pE, zE_pE, zI_pE, zR_pI, zT_pI, zL_pI, zn_pI, zE_pI, zI_pI, eK, nw, gw, lw, e1, zi_60, nk, gk, lk, zi_one, d6, d9, d10]
      · have d10 := eq_false (fun z => c10 (k10.mp z))
        have hp := hp (by omega)
        have step : f_X11_keep 616 (nI w) (nI i) pl h = (f_X11_parent 616 (nI w) (pE (pE h 648 (60 * w + L) (nI i)) 649 w (nI (L + 1)))).bind (fun q15 => if q15.1 = -1 then f_X11_keep_68 616 (nI w) pl q15.2 else f_X11_keep_64 616 (nI w) pl q15.2) := by
          simp only [f_X11_keep, o10, o00, bh, isO, inR, ck_true, bind_some9, Nat.reduceLeDiff, Nat.reduceEqDiff, and_self, and_true, true_and, false_and, and_false, not_false_eq_true, not_true_eq_false, or_self, or_false, false_or, if_true, if_false, reduceIte, RF_o H, RF_1240 H, RO_648 H, RL_648 H, RF_1241 H, RO_649 H, RL_649 H, zR_pE, zT_pE, zL_pE, zn_pE, zE_pE, zI_pE, zR_pI, zT_pI, zL_pI, zn_pI, zE_pI, zI_pI, eK, nw, gw, lw, e1, zi_60, nk, gk, lk, zi_one, d6, d9, d10]
        rw [step, hp, bind_some9]
        by_cases co : o < 0
        · rw [if_pos (Or.inr (Or.inr ⟨by omega, co⟩))]
          show (if (if o < 0 then (-1 - o) / 64 else -1) = -1 then _ else _) = _
          rw [if_pos co, if_neg (org_div co)]
          rfl
        · rw [if_neg (show ¬ (K = 6 ∨ K = 9 ∨ (10 ≤ K ∧ o < 0)) from fun z => by rcases z with z | z | z <;> first | omega | exact co z.2)]
          show (if (if o < 0 then (-1 - o) / 64 else -1) = -1 then _ else _) = _
          rw [if_neg co, if_pos rfl]
          rfl
theorem evsAt.snoc {h h1 : Hp} {N w i : Nat} {E : List Nat} {es : List Evt} {e : Evt} {n t : Nat} (q : evsAt h N w E es) (hl : es.length < 60) (hr : ∀ a j, rcS j a j ∨ a = 648 ∧ j ≠ 60 * w + es.length → True) (e1 : zE h1 649 w = nI (es.length + 1)) (e2 : zE h1 648 (60 * w + es.length) = nI i) (e3 : ∀ k, k < es.length → zE h1 648 (60 * w + k) = zE h 648 (60 * w + k)) (e4 : ∀ a j, 633 ≤ a → a ≤ 637 → zE h1 a j = zE h a j) (hn : n < 16) (he : e.1 < 16) (hi : idAt h N i (n, e.1, t, e.2.1, e.2.2.1, e.2.2.2)) : evsAt h1 N w (E ++ [i]) (es ++ [e]) := by
  obtain ⟨q1, ⟨q2, q3⟩, q4, q5⟩ := q
  have rc : ∀ {j : Nat} {r : Rec}, idAt h N j r → idAt h1 N j r := fun {j r} z => ⟨z.1, by
    obtain ⟨y1, y2, y3, y4, y5⟩ := z.2
    exact ⟨by rw [e4 _ _ (by omega) (by omega)]; exact y1, by rw [e4 _ _ (by omega) (by omega)]; exact y2, by rw [e4 _ _ (by omega) (by omega)]; exact y3, by rw [e4 _ _ (by omega) (by omega)]; exact y4, by rw [e4 _ _ (by omega) (by omega)]; exact y5⟩⟩
  refine ⟨by rw [e1, List.length_append]; rfl, ⟨by rw [List.length_append, List.length_append, q2]; rfl, by rw [List.length_append]; simp; omega⟩, fun k j hk => ?_, fun k j f hk hf => ?_⟩
  · by_cases c : k < E.length
    · rw [List.getElem?_append_left c] at hk
      rw [e3 k (by omega)]; exact q4 k j hk
    · have hk1 := (List.getElem?_eq_some_iff.mp hk).1
      rw [List.length_append] at hk1
      simp at hk1
      have ek : k = E.length := by omega
      rw [ek, List.getElem?_append_right (Nat.le_refl _), Nat.sub_self] at hk
      have hk : i = j := Option.some.inj hk
      rw [ek, q2, ← hk]; exact e2
  · by_cases c : k < E.length
    · rw [List.getElem?_append_left c] at hk
      rw [List.getElem?_append_left (by omega)] at hf
      obtain ⟨n9, t9, a1, a2, a3⟩ := q5 k j f hk hf
      exact ⟨n9, t9, a1, a2, rc a3⟩
    · have hk1 := (List.getElem?_eq_some_iff.mp hk).1
      rw [List.length_append] at hk1
      simp at hk1
      have ek : k = E.length := by omega
      rw [ek, List.getElem?_append_right (Nat.le_refl _), Nat.sub_self] at hk
      rw [ek, q2, List.getElem?_append_right (Nat.le_refl _), Nat.sub_self] at hf
      have hk : i = j := Option.some.inj hk
      have hf : e = f := Option.some.inj hf
      rw [← hk, ← hf]
      exact ⟨n, t, hn, he, rc hi⟩
def plI (pl : Option Nat) : Int32 := match pl with
  | none => -1
  | some p => nI p
def plO (O : List (Nat × Nat × Nat)) (pl : Option Nat) (n L : Nat) : List (Nat × Nat × Nat) := match pl with
  | none => O
  | some p => O ++ [(p, n, L)]
/-- what is kept: the event, and a message if it is one and has a place -/
theorem w_keep {h : Hp} (H : RF h) {N s n i t : Nat} {E : List Nat} {es : List Evt} {e : Evt} {O : List (Nat × Nat × Nat)} (hs : s < 4) (hn : n < 16) (hN : N ≤ 60000) (ev : evsAt h N (16 * s + n) E es) (hl : es.length < 60) (h0 : es = [] → e.1 = 0) (he : e.1 < 16) (hi : idAt h N i (n, e.1, t, e.2.1, e.2.2.1, e.2.2.2)) (ob : obAt h s O) (hO : O.length < 1000) (pl : Option Nat) (hp : ∀ p, pl = some p → p < 100000) :
    ∃ h1, f_X11_keep 616 (nI (16 * s + n)) (nI i) (plI pl) h = some h1 ∧ frx (kpS (16 * s + n) s es.length O.length) h h1 ∧ evsAt h1 N (16 * s + n) (E ++ [i]) (es ++ [e]) ∧ obAt h1 s (if bkMsg es e.1 = true then plO O pl n es.length else O) := by
  have eK := w_kind H (by have := hi.1; omega) hi.2 he hn
  have eK : f_X11_kindOf 616 (nI i) h = some (nI e.1, h) := eK
  generalize hh : pE (pE h 648 (60 * (16 * s + n) + es.length) (nI i)) 649 (16 * s + n) (nI (es.length + 1)) = h2
  have f2 : frx (kpS (16 * s + n) s es.length O.length) h h2 := by
    rw [← hh]
    exact (frx_pE (Or.inl ⟨rfl, rfl⟩)).trans (frx_pE (Or.inr (Or.inl ⟨rfl, rfl⟩)))
  have H2 := H.on f2
  have ev2 : evsAt h2 N (16 * s + n) (E ++ [i]) (es ++ [e]) := by
    refine ev.snoc hl (fun _ _ _ => trivial) ?_ ?_ (fun k hk => ?_) (fun a j g1 g2 => f2.2.2.2 a j (by unfold kpS; omega)) hn he hi
    · rw [← hh, zE_pE, if_pos ⟨rfl, rfl⟩]
    · rw [← hh, zE_pE, if_neg (by omega), zE_pE, if_pos ⟨rfl, rfl⟩]
    · rw [← hh, zE_pE, if_neg (by omega), zE_pE, if_neg (by omega)]
  have ob2 : obAt h2 s O := by
    obtain ⟨o1, o2, o3⟩ := ob
    refine ⟨?_, o2, fun k m hk => ?_⟩
    · rw [← hh, zE_pE, if_neg (by omega), zE_pE, if_neg (by omega)]; exact o1
    · obtain ⟨y1, y2, y3⟩ := o3 k m hk
      refine ⟨?_, ?_, ?_⟩
      · rw [← hh, zE_pE, if_neg (by omega), zE_pE, if_neg (by omega)]; exact y1
      · rw [← hh, zE_pE, if_neg (by omega), zE_pE, if_neg (by omega)]; exact y2
      · rw [← hh, zE_pE, if_neg (by omega), zE_pE, if_neg (by omega)]; exact y3
  have hpar : 10 ≤ e.1 → f_X11_parent 616 (nI (16 * s + n)) h2 = some (if rpO es < 0 then (-1 - rpO es) / 64 else -1, h2) := fun h10 => by
    have hne : 0 < es.length := by
      rcases es with _ | ⟨a, r⟩
      · have := h0 rfl; omega
      · simp
    have := w_parent H2 (by omega : 16 * s + n < 64) ev2 (by simp) hN
    rw [rpO_snoc e hne] at this
    exact this
  have eA := w_keep_at (pl := (plI pl)) H (by omega : 16 * s + n < 64) hl ev.1 eK he (o := rpO es) (by rw [hh]; exact hpar)
  rw [hh] at eA
  have em : (e.1 = 6 ∨ e.1 = 9 ∨ (10 ≤ e.1 ∧ rpO es < 0)) ↔ bkMsg es e.1 = true := by
    unfold bkMsg
    simp only [Bool.or_eq_true, Bool.and_eq_true, decide_eq_true_eq, or_assoc]
  by_cases cm : bkMsg es e.1 = true
  · rw [if_pos (em.mpr cm)] at eA
    rw [if_pos cm]
    cases pl with
    | none =>
      refine ⟨h2, ?_, f2, ev2, ob2⟩
      rw [eA]
      show f_X11_keep_69 1 616 (nI (16 * s + n)) (-1) h2 = _
      unfold f_X11_keep_69
      rw [if_neg (by decide), if_pos rfl]
    | some p =>
      have e49 : zE h2 649 (16 * s + n) = nI (es.length + 1) := by rw [← hh, zE_pE, if_pos ⟨rfl, rfl⟩]
      have e9 := w_keep69 H2 hs hn (by omega : O.length < 1024) hl (hp p rfl) ob2.1 e49
      have f3 : frx (kpS (16 * s + n) s es.length O.length) h2 (pE (pE (pE (pE h2 666 (1024 * s + O.length) (nI p)) 667 (1024 * s + O.length) (nI (16 * s + n))) 668 (1024 * s + O.length) (nI es.length)) 665 s (nI (O.length + 1))) := (((frx_pE (by unfold kpS; omega)).trans (frx_pE (by unfold kpS; omega))).trans (frx_pE (by unfold kpS; omega))).trans (frx_pE (by unfold kpS; omega))
      refine ⟨_, ?_, f2.trans f3, ?_, ?_⟩
      · rw [eA]; exact e9
      · exact ⟨by
          rw [zE_pE, if_neg (by omega), zE_pE, if_neg (by omega), zE_pE, if_neg (by omega), zE_pE, if_neg (by omega)]; exact ev2.1, ev2.2.1, fun k j hk => by
          rw [zE_pE, if_neg (by omega), zE_pE, if_neg (by omega), zE_pE, if_neg (by omega), zE_pE, if_neg (by omega)]; exact ev2.2.2.1 k j hk, fun k j f hk hf => by
          obtain ⟨n9, t9, a1, a2, a3⟩ := ev2.2.2.2 k j f hk hf
          exact ⟨n9, t9, a1, a2, a3.on f3 (fun a j _ => by unfold kpS; omega)⟩⟩
      · obtain ⟨o1, o2, o3⟩ := ob2
        show obAt _ s (O ++ [(p, n, es.length)])
        refine ⟨?_, by rw [List.length_append]; simp; omega, fun k m hk => ?_⟩
        · rw [zE_pE, if_pos ⟨rfl, rfl⟩, List.length_append]; rfl
        · have hk1 := (List.getElem?_eq_some_iff.mp hk).1
          rw [List.length_append] at hk1
          simp at hk1
          by_cases c : k < O.length
          · rw [List.getElem?_append_left c] at hk
            obtain ⟨y1, y2, y3⟩ := o3 k m hk
            refine ⟨?_, ?_, ?_⟩
            · rw [zE_pE, if_neg (by omega), zE_pE, if_neg (by omega), zE_pE, if_neg (by omega), zE_pE, if_neg (by omega)]; exact y1
            · rw [zE_pE, if_neg (by omega), zE_pE, if_neg (by omega), zE_pE, if_neg (by omega), zE_pE, if_neg (by omega)]; exact y2
            · rw [zE_pE, if_neg (by omega), zE_pE, if_neg (by omega), zE_pE, if_neg (by omega), zE_pE, if_neg (by omega)]; exact y3
          · have ek : k = O.length := by omega
            rw [ek, List.getElem?_append_right (Nat.le_refl _), Nat.sub_self] at hk
            have hk : (p, n, es.length) = m := Option.some.inj hk
            rw [ek, ← hk]
            refine ⟨?_, ?_, ?_⟩
            · rw [zE_pE, if_neg (by omega), zE_pE, if_neg (by omega), zE_pE, if_neg (by omega), zE_pE, if_pos ⟨rfl, rfl⟩]
            · rw [zE_pE, if_neg (by omega), zE_pE, if_neg (by omega), zE_pE, if_pos ⟨rfl, rfl⟩]
            · rw [zE_pE, if_neg (by omega), zE_pE, if_pos ⟨rfl, rfl⟩]
  · rw [if_neg (fun z => cm (em.mp z))] at eA
    rw [if_neg cm]
    refine ⟨h2, ?_, f2, ev2, ob2⟩
    rw [eA]
    unfold f_X11_keep_69
    rw [if_pos rfl]
/-! AN EVENT COMES TO A WORKFLOW -/
theorem run_phase0 (P : Prg) : ∀ (k : Nat) (W : Wkr) (o : Int32) (xs : List Evt), wkP (wkRun P o 0 xs k W).2 = 0 → wkP W = 0
  | 0, W, o, xs, h => h
  | k + 1, W, o, xs, h => by
    unfold wkRun at h
    by_cases c : wkP W ≠ 5
    · rw [if_pos c] at h; exact h
    · rw [if_neg c] at h
      cases hw : wkWish P o 0 W with
      | some q => rw [hw] at h; exact h
      | none =>
        rw [hw] at h
        have h := run_phase0 P k _ _ _ h
        rcases wkWalk_or P xs W with ⟨-, g⟩ | g
        · rw [g] at h; exact h
        · omega
/-- it still waits for its work -/
theorem phase0_back {P : Prg} {es : List Evt} {e : Evt} (h0 : 0 < es.length) (ok : evOK P es e) (hp : wkP (rpR P (es ++ [e])) = 0) (h1 : e.1 ≠ 1) : wkP (rpR P es) = 0 ∧ rpR P (es ++ [e]) = rpR P es ∧ (e.1 = 7 ∨ e.1 = 8) := by
  have hA : wkP (wkTake P (rpR P es) e) = 0 := by rw [← rpA_snoc P e h0]; exact run_phase0 P 201 _ _ _ hp
  have old : wkP (rpR P es) = 0 := by
    unfold wkTake at hA
    rw [if_neg h1] at hA
    have e5 : ∀ U : Wkr, wkP (wkResume U) = 0 → False := fun U q => absurd q (show ¬ 5 = 0 by decide)
    split at hA
    · exact absurd hA (show ¬ 1 = 0 by decide)
    · split at hA
      · exact hA
      · split at hA
        · exact hA
        · split at hA
          · exact (e5 _ hA).elim
          · split at hA
            · exact (e5 _ hA).elim
            · split at hA
              · split at hA
                · exact (e5 _ hA).elim
                · exact hA
              · split at hA
                · split at hA
                  · exact (e5 _ hA).elim
                  · exact hA
                · exact absurd hA (show ¬ 4 = 0 by decide)
  have ow := evOK_wait ok (by omega)
  have kk : e.1 = 7 ∨ e.1 = 8 := by
    rcases ow with z | ⟨-, z⟩ | ⟨z, -⟩ | z | z
    · rw [wkTake_over (by omega)] at hA
      exact absurd hA (show ¬ 4 = 0 by decide)
    · unfold wkTake at hA
      rw [if_neg h1, if_neg (by omega), if_neg (by omega), if_neg (by omega), if_pos z] at hA
      exact absurd hA (show ¬ 5 = 0 by decide)
    · omega
    · exact Or.inl z
    · exact Or.inr z
  have et : wkTake P (rpR P es) e = rpR P es := by
    unfold wkTake
    rw [if_neg h1, if_neg (by omega), if_neg (by omega), if_neg (by omega), if_neg (by omega), if_neg (by omega)]
    by_cases c8 : e.1 = 8
    · rw [if_pos c8, if_neg (by omega)]
    · rw [if_neg c8, if_pos (by omega), if_neg (by omega)]
  have eA : rpA P (es ++ [e]) = rpR P es := by rw [rpA_snoc P e h0, et]
  exact ⟨old, by rw [rpR_wait (by rw [eA]; omega), eA], kk⟩
/-- a task is set anew -/
def tkH (h : Hp) (w : Nat) (now : Int32) : Hp := pE (pE (pE h 660 w 1) 664 w 1) 661 w now
theorem w_makes_158 {KL : Nat → Int32 → Hp → Option Hp} {h : Hp} (H : RF h) {w k p : Nat} {ov now : Int32} (hw : w < 64) (hk : k < 16) (hp : p ≤ 5) (e1 : zE h 651 w = nI p) (en : zI h 1201 616 = now) : f_X11_makes_158 KL 616 (nI w) (nI k) ov h = some (1, if p = 0 ∧ k = 1 ∧ ov = 0 then tkH h w now else h) := by
  have nw : (nI w).toNatClampNeg = w := zi_nat (by omega)
  have gw : ¬ nI w < 0 := zi_neg (by omega)
  have lw : ¬ 64 ≤ w := by omega
  have p0 : nI p = (0 : Int32) ↔ p = 0 := zi_eq (b := 0) (by omega) (by omega)
  have k1 : nI k = (1 : Int32) ↔ k = 1 := zi_eq (b := 1) (by omega) (by omega)
  by_cases c0 : p = 0
  · have d0 := eq_true (p0.mpr c0)
    by_cases c1 : k = 1
    · have d1 := eq_true (k1.mpr c1)
      by_cases c2 : ov = 0
      · rw [if_pos ⟨c0, c1, c2⟩]
        unfold tkH
        simp only [f_X11_makes_158, o10, o00, bh, isO, inR, ck_true, bind_some9, Nat.reduceLeDiff, Nat.reduceEqDiff, and_self, and_true, true_and, false_and, and_false, not_false_eq_true, not_true_eq_false, or_self, or_false, false_or, if_true, if_false, reduceIte, RF_o H, RF_1243 H, RO_651 H, RL_651 H, RF_1252 H, RO_660 H, RL_660 H, RF_1253 H, RO_661 H, RL_661 H, RF_1256 H, RO_664 H, RL_664 H, zR_pE, zT_pE, zL_pE, zn_pE, zE_pE, zI_pE, zR_pI, zT_pI, zL_pI, zn_pI, zE_pI, zI_pI, nw, gw, lw, e1, d0, d1, c2, en]
      · rw [if_neg (fun z => c2 z.2.2)]
        simp only [f_X11_makes_158, o10, o00, bh, isO, inR, ck_true, bind_some9, Nat.reduceLeDiff, Nat.reduceEqDiff, and_self, and_true, true_and, false_and, and_false, not_false_eq_true, not_true_eq_false, or_self, or_false, false_or, if_true, if_false, reduceIte, RF_o H, RF_1243 H, RO_651 H, RL_651 H, RF_1252 H, RO_660 H, RL_660 H, RF_1253 H, RO_661 H, RL_661 H, RF_1256 H, RO_664 H, RL_664 H, zR_pE, zT_pE, zL_pE, zn_pE, zE_pE, zI_pE, zR_pI, zT_pI, zL_pI, zn_pI, zE_pI, zI_pI, nw, gw, lw, e1, d0, d1, c2]
    · rw [if_neg (fun z => c1 z.2.1)]
      have d1 := eq_false (fun z => c1 (k1.mp z))
      simp only [f_X11_makes_158, o10, o00, bh, isO, inR, ck_true, bind_some9, Nat.reduceLeDiff, Nat.reduceEqDiff, and_self, and_true, true_and, false_and, and_false, not_false_eq_true, not_true_eq_false, or_self, or_false, false_or, if_true, if_false, reduceIte, RF_o H, RF_1243 H, RO_651 H, RL_651 H, RF_1252 H, RO_660 H, RL_660 H, RF_1253 H, RO_661 H, RL_661 H, RF_1256 H, RO_664 H, RL_664 H, zR_pE, zT_pE, zL_pE, zn_pE, zE_pE, zI_pE, zR_pI, zT_pI, zL_pI, zn_pI, zE_pI, zI_pI, nw, gw, lw, e1, d0, d1]
  · rw [if_neg (fun z => c0 z.1)]
    have d0 := eq_false (fun z => c0 (p0.mp z))
    simp only [f_X11_makes_158, o10, o00, bh, isO, inR, ck_true, bind_some9, Nat.reduceLeDiff, Nat.reduceEqDiff, and_self, and_true, true_and, false_and, and_false, not_false_eq_true, not_true_eq_false, or_self, or_false, false_or, if_true, if_false, reduceIte, RF_o H, RF_1243 H, RO_651 H, RL_651 H, RF_1252 H, RO_660 H, RL_660 H, RF_1253 H, RO_661 H, RL_661 H, RF_1256 H, RO_664 H, RL_664 H, zR_pE, zT_pE, zL_pE, zn_pE, zE_pE, zI_pE, zR_pI, zT_pI, zL_pI, zn_pI, zE_pI, zI_pI, nw, gw, lw, e1, d0]
theorem w_makes_red {KL : Nat → Int32 → Hp → Option Hp} {h : Hp} (H : RF h) {s n L k : Nat} {a b o : Int32} {es : List Evt} (hs : s < 4) (hn : n < 16) (hL : es.length = L) (hL6 : L ≤ 59) (hk : k < 16) (e1 : zE h 649 (16 * s + n) = nI L) :
    f_X11_makes KL 616 (nI (16 * s + n)) (nI k) a b o h = f_X11_makes_80 KL 616 (nI s) (nI n) (nI (evNow es k a b o).1) (evNow es k a b o).2.1 (evNow es k a b o).2.2.1 (evNow es k a b o).2.2.2 616 (nI (16 * s + n)) (nI k) (nI s) (if k < 10 ∧ L = 59 then 1 else 0) h := by
  have nw : (nI (16 * s + n)).toNatClampNeg = 16 * s + n := zi_nat (by omega)
  have gw : ¬ nI (16 * s + n) < 0 := zi_neg (by omega)
  have lw : ¬ 64 ≤ 16 * s + n := by omega
  have d16 := zi_16d hs hn
  have m16 := zi_16m hs hn
  have q59 : nI L = (59 : Int32) ↔ L = 59 := zi_eq (b := 59) (by omega) (by omega)
  have q10 : (10 : Int32) ≤ nI k ↔ 10 ≤ k := zi_le (a := 10) (by omega) (by omega)
  by_cases c : L = 59
  · have d1 := eq_true (q59.mpr c)
    by_cases c1 : 10 ≤ k
    · have d2 := eq_true (q10.mpr c1)
      have ee : evNow es k a b o = (k, a, b, o) := by unfold evNow; rw [if_neg]; simp; omega
      rw [ee, if_neg (by omega)]
      simp only [f_X11_makes, f_X11_makes_27, f_X11_makes_28, f_X11_makes_48, f_X11_makes_58, f_X11_makes_69, o10, o00, bh, isO, inR, ck_true, bind_some9, Nat.reduceLeDiff, Nat.reduceEqDiff, and_self, and_true, true_and, false_and, and_false, not_false_eq_true, not_true_eq_false, or_self, or_false, false_or, if_true, if_false, reduceIte, RF_o H, RF_1241 H, RO_649 H, RL_649 H, zR_pE, zT_pE, zL_pE, zn_pE, zE_pE, zI_pE, zR_pI, zT_pI, zL_pI, zn_pI, zE_pI, zI_pI, nw, gw, lw, d16, m16, e1, d1, d2]
    · have d2 := eq_false (fun z => c1 (q10.mp z))
      have ee : evNow es k a b o = (12, -1, 0, 0) := by unfold evNow; rw [if_pos]; simp; omega
      rw [ee, if_pos (by omega)]
      simp only [f_X11_makes, f_X11_makes_28, f_X11_makes_48, f_X11_makes_58, f_X11_makes_69, o10, o00, bh, isO, inR, ck_true, bind_some9, Nat.reduceLeDiff, Nat.reduceEqDiff, and_self, and_true, true_and, false_and, and_false, not_false_eq_true, not_true_eq_false, or_self, or_false, false_or, if_true, if_false, reduceIte, RF_o H, RF_1241 H, RO_649 H, RL_649 H, zR_pE, zT_pE, zL_pE, zn_pE, zE_pE, zI_pE, zR_pI, zT_pI, zL_pI, zn_pI, zE_pI, zI_pI, nw, gw, lw, d16, m16, e1, d1, d2]
      rfl
  · have d1 := eq_false (fun z => c (q59.mp z))
    have ee : evNow es k a b o = (k, a, b, o) := by unfold evNow; rw [if_neg]; simp; omega
    rw [ee, if_neg (by omega)]
    simp only [f_X11_makes, f_X11_makes_27, f_X11_makes_28, f_X11_makes_48, f_X11_makes_58, f_X11_makes_69, o10, o00, bh, isO, inR, ck_true, bind_some9, Nat.reduceLeDiff, Nat.reduceEqDiff, and_self, and_true, true_and, false_and, and_false, not_false_eq_true, not_true_eq_false, or_self, or_false, false_or, if_true, if_false, reduceIte, RF_o H, RF_1241 H, RO_649 H, RL_649 H, zR_pE, zT_pE, zL_pE, zn_pE, zE_pE, zI_pE, zR_pI, zT_pI, zL_pI, zn_pI, zE_pI, zI_pI, nw, gw, lw, d16, m16, e1, d1]
/-- all that the reference's acts on a shard stand on: B records are those of other shards, K is what calls have allowed -/
def RG (vs : Nat → List Prg) (now : Int32) (TX : List (Nat × Nat × Nat × Prg)) (B K : Nat) (h : Hp) (N : Nat) : Prop := RF h ∧ zI h 1224 616 = nI N ∧ zI h 1201 616 = now ∧ txOK h vs TX ∧ (B ≤ 50000 ∧ K ≤ 2000) ∧ ∀ p, p < 8 → (vs p).length ≤ 4100
def RS (vs : Nat → List Prg) (now : Int32) (TX : List (Nat × Nat × Nat × Prg)) (B K s : Nat) (h : Hp) (q : Shd) (C : List Rec) : Prop := RG vs now TX B K h (B + shQ q) ∧ (ShI vs q C ∧ shY q ≤ lgW C + K) ∧ ∃ I EE, rsAt h (B + shQ q) I EE s q
/-- the leader is lost, and the reference has not set that down -/
def RL (vs : Nat → List Prg) (now : Int32) (TX : List (Nat × Nat × Nat × Prg)) (B K s m : Nat) (h : Hp) (q : Shd) (C : List Rec) : Prop := RG vs now TX B K h (B + shQ q) ∧ (ShI vs (shLose q) C ∧ shY (shLose q) ≤ lgW C + K) ∧ upsN (shZ q) (shD q) ≤ m ∧ ∃ I EE, rsAt h (B + shQ q) I EE s q
def KLok (vs : Nat → List Prg) (now : Int32) (TX : List (Nat × Nat × Nat × Prg)) (B K s m : Nat) (KL : Nat → Int32 → Hp → Option Hp) : Prop := ∀ h q C, RL vs now TX B K s m h q C → ∃ h1 E, KL 616 (nI s) h = some h1 ∧ frx (fpS s (B + shQ q)) h h1 ∧ RS vs now TX B K s h1 (stl vs now (shLose q)) E ∧ C <+: E ∧ (shL (stl vs now (shLose q)) ≠ -1 → calm (stl vs now (shLose q)))
theorem RG.on {vs : Nat → List Prg} {now : Int32} {TX : List (Nat × Nat × Nat × Prg)} {B K s : Nat} {h h1 : Hp} {N M N1 : Nat} (g : RG vs now TX B K h N) (f : frx (fpS s M) h h1) (e : zI h1 1224 616 = nI N1) : RG vs now TX B K h1 N1 := by
  obtain ⟨g1, g2, g3, g4, g5⟩ := g
  refine ⟨g1.on f, e, ?_, g4.on f (fun a j h1 h2 z => ?_), g5⟩
  · rw [f.2.2.1 1201 (fun z => by unfold fpS shS shX at z; rcases z with (z | z | z | z | z | z | z) | (z | z | z) <;> omega)]; exact g3
  · unfold fpS shS shX at z; rcases z with (z | z | z | z | z | z | z) | (z | z | z) <;> omega
theorem q_bound {vs : Nat → List Prg} {q : Shd} {C : List Rec} {K : Nat} (hI : ShI vs q C) (hY : shY q ≤ lgW C + K) (hK : K ≤ 2000) : shQ q ≤ 3920 := by
  have := (lgV_bound hI.v).1
  unfold shY at hY
  omega
theorem oc_lt {vs : Nat → List Prg} {q : Shd} {C : List Rec} (hI : ShI vs q C) : (shO q).length ≤ 960 := by
  rw [hI.2.1.2.1]
  exact (lgV_bound hI.v).2
theorem N16 {vs : Nat → List Prg} {q : Shd} {C : List Rec} (hI : ShI vs q C) : shN q ≤ 16 := by
  rw [hI.2.1.1]; exact (bkG_log hI.v).1
/-- the four parts of a shard's state lie apart -/
theorem mk_shF (now : Int32) (q : Shd) (n : Nat) : True := trivial
theorem dwS_row {s N : Nat} {a j : Nat} (h : (648 ≤ a ∧ a ≤ 670) ∨ a = 647) : ¬ dwS s N a j := fun z => by
  rcases z with z | ⟨r, -, z⟩
  · unfold nrS at z; omega
  · unfold dkS at z; omega
theorem dwS_rec {s N : Nat} : ∀ a i, i < N → ¬ dwS s N a i ∨ a < 633 ∨ 637 < a := fun a i hi => by
  by_cases c : a < 633 ∨ 637 < a
  · exact Or.inr c
  · refine Or.inl (fun z => ?_)
    rcases z with z | ⟨r, -, z⟩
    · unfold nrS at z; omega
    · unfold dkS at z; omega
/-- what an event's walk and task write in row w -/
def tsS (w : Nat) (a j : Nat) : Prop := (a = 660 ∨ a = 661 ∨ a = 664) ∧ j = w
def rwS (w : Nat) (a j : Nat) : Prop := gtS w a j ∨ tsS w a j
theorem rwS_fp {s n : Nat} (hn : n < 16) (N : Nat) : ∀ a j, rwS (16 * s + n) a j → fpS s N a j := fun a j q => by
  rcases q with q | q
  · exact gtS_sh hn N a j q
  · unfold tsS at q
    exact Or.inl (Or.inr (Or.inr (Or.inr (Or.inr (Or.inl ⟨by omega, by omega⟩)))))
theorem sdAt_same {h : Hp} {N s : Nat} {I : Nat → List Nat} {q u : Shd} (d : sdAt h N I s (shV q)) (e1 : shZ u = shZ q) (e2 : shL u = shL q) (e3 : shT u = shT q) (e4 : shD u = shD q) : sdAt h N I s (shV u) := by
  have e5 : shD (shV u) = shD (shV q) := by
    funext x
    show (if x < shZ u then shD u x else _) = (if x < shZ q then shD q x else _)
    rw [e1, e4]
  unfold sdAt at d ⊢
  rw [e5]
  show ((zE h 644 s = nI (shZ u) ∧ zE h 645 s = shL u ∧ zE h 646 s = nI (shT u)) ∧ (3 ≤ shZ u ∧ shZ u ≤ 5 ∧ shT u < 60000) ∧ _)
  rw [e1, e2, e3]
  exact d
theorem shMake_parts {now : Int32} {q : Shd} {n k : Nat} {a b o : Int32} {e : Evt} (he : evNow (flE (shF q n)) k a b o = e) (ct : (shCommit q e.1 n e.2.1 e.2.2.1 e.2.2.2).1 = true) (cF : shF (shCommit q e.1 n e.2.1 e.2.2.1 e.2.2.2).2 = shF q) :
    (shMake now q n k a b o).1 = true ∧ (shZ (shMake now q n k a b o).2 = shZ (shCommit q e.1 n e.2.1 e.2.2.1 e.2.2.2).2 ∧ shL (shMake now q n k a b o).2 = shL (shCommit q e.1 n e.2.1 e.2.2.1 e.2.2.2).2 ∧ shT (shMake now q n k a b o).2 = shT (shCommit q e.1 n e.2.1 e.2.2.1 e.2.2.2).2 ∧ shD (shMake now q n k a b o).2 = shD (shCommit q e.1 n e.2.1 e.2.2.1 e.2.2.2).2 ∧ shQ (shMake now q n k a b o).2 = shQ (shCommit q e.1 n e.2.1 e.2.2.1 e.2.2.2).2) ∧ shF (shMake now q n k a b o).2 = upf (shF q) n (flRun (flTake (shF q n) e now) now).2 ∧ shO (shMake now q n k a b o).2 = (if isMsg (flTake (shF q n) e now) e.1 = true then shO (shCommit q e.1 n e.2.1 e.2.2.1 e.2.2.2).2 ++ [(shRecs q, n, (flE (flTake (shF q n) e now)).length - 1)] else shO (shCommit q e.1 n e.2.1 e.2.2.1 e.2.2.2).2) := by
  have eH := shHappen_eq now q n k a b o rfl he
  rw [if_neg (by rw [ct]; decide), cF] at eH
  generalize (shCommit q e.1 n e.2.1 e.2.2.1 e.2.2.2).2 = c at *
  have eM : shMake now q n k a b o = (true, if isMsg (flTake (shF q n) e now) e.1 = true then (shZ c, shL c, shT c, shD c, shN c, upf (shF q) n (flRun (flTake (shF q n) e now) now).2, shO c ++ [(shRecs q, n, (flE (flTake (shF q n) e now)).length - 1)], shQ c) else (shZ c, shL c, shT c, shD c, shN c, upf (shF q) n (flRun (flTake (shF q n) e now) now).2, shO c, shQ c)) := by
    unfold shMake
    rw [eH, if_neg (fun z => Bool.noConfusion z)]
    by_cases cm : isMsg (flTake (shF q n) e now) e.1 = true
    · rw [if_pos cm, if_pos cm]
      show (true, shSetF (shSetO (shSetF c n (flTake (shF q n) e now)) _) n (flRun (shF (shSetO (shSetF c n (flTake (shF q n) e now)) _) n) now).2) = _
      rw [setF_at2, setF_set2, cF]
    · rw [if_neg cm, if_neg cm]
      show (true, shSetF (shSetF c n (flTake (shF q n) e now)) n (flRun (shF (shSetF c n (flTake (shF q n) e now)) n) now).2) = _
      rw [setF_at1, setF_set1, cF]
  rw [eM]
  refine ⟨rfl, ?_, ?_, ?_⟩
  · show (shZ (if _ then _ else _) = _ ∧ _)
    split <;> exact ⟨rfl, rfl, rfl, rfl, rfl⟩
  · show shF (if _ then _ else _) = _
    split <;> rfl
  · show shO (if _ then _ else _) = _
    split <;> rfl
theorem evAt_0 {es : List Evt} {n : Nat} (h : 0 < n) : evAt (es.take n) 0 = evAt es 0 := evAt_take h
theorem fw_row {h h1 : Hp} {N s n M : Nat} {EE : Nat → List Nat} {F : Nat → Flw} {S : Nat → Nat → Prop} {E1 : List Nat} {f1 : Flw} (q : ∀ m, m < M → m ≠ n → evsAt h N (16 * s + m) (EE m) (flE (F m)) ∧ rfF h (16 * s + m) (flE (F m)) (flP (F m)) ∧ tkAt h (16 * s + m) (F m)) (p : frx S h h1) (hr : ∀ a i, i < N → ¬ S a i ∨ a < 633 ∨ 637 < a) (hx : ∀ m, m < M → m ≠ n → ∀ a, (649 ≤ a ∧ a ≤ 652 ∨ 654 ≤ a ∧ a ≤ 664) → ¬ S a (16 * s + m)) (hy : ∀ m, m < M → m ≠ n → ∀ j, j / 60 = 16 * s + m → ¬ S 648 j) (hz : ∀ m, m < M → m ≠ n → ∀ j, j / 8 = 16 * s + m → ¬ S 653 j) (new : n < M → evsAt h1 N (16 * s + n) E1 (flE f1) ∧ rfF h1 (16 * s + n) (flE f1) (flP f1) ∧ tkAt h1 (16 * s + n) f1) : fwAt h1 N s (upf EE n E1) M (upf F n f1) := fun m hm => by
  by_cases c : m = n
  · rw [show upf EE n E1 m = E1 from if_pos c, show upf F n f1 m = f1 from if_pos c, c]
    exact new (by omega)
  · rw [show upf EE n E1 m = EE m from if_neg c, show upf F n f1 m = F m from if_neg c]
    obtain ⟨q1, q2, q3⟩ := q m hm c
    exact ⟨q1.on p hr (fun a j z => by
      unfold evS at z
      rcases z with ⟨rfl, z⟩ | ⟨rfl, z⟩
      · rw [z]; exact hx m hm c _ (by omega)
      · exact hy m hm c j z), q2.on p (fun a g => hx m hm c _ (by omega)) (fun v hv => hz m hm c _ (by omega)), q3.on p (fun a g1 g2 => hx m hm c _ (by omega))⟩
theorem w_makes {vs : Nat → List Prg} {now : Int32} {TX : List (Nat × Nat × Nat × Prg)} {B K s m : Nat} {KL : Nat → Int32 → Hp → Option Hp} {h : Hp} {q : Shd} {C : List Rec} (hs : s < 4) (R : RS vs now TX B K s h q C) (hl : shL q ≠ -1) (kl : KLok vs now TX B K s m KL) (hm : upsN (shZ q) (shD q) ≤ m + 1) {n k : Nat} (hn : n < shN q) {a b o : Int32} (ok : evOK (flP (shF q n)) (flE (shF q n)) (k, a, b, o)) :
    ((shMake now q n k a b o).1 = true ∧ ∃ h1 E, f_X11_makes KL 616 (nI (16 * s + n)) (nI k) a b o h = some (1, h1) ∧ frx (fpS s (B + shQ q)) h h1 ∧ RS vs now TX B K s h1 (shMake now q n k a b o).2 E ∧ C <+: E ∧ rfW h1 (16 * s + n) (flE (shF (shMake now q n k a b o).2 n)) (flP (shF (shMake now q n k a b o).2 n)) now ∧ ∀ x, x < 16 → x ≠ n → ∀ y, (y = 656 ∨ y = 657 ∨ y = 658) → zE h1 y (16 * s + x) = zE h y (16 * s + x)) ∨
    ((shMake now q n k a b o).1 = false ∧ ∃ h1 E, f_X11_makes KL 616 (nI (16 * s + n)) (nI k) a b o h = some (0, h1) ∧ frx (fpS s (B + shQ q)) h h1 ∧ RS vs now TX B K s h1 (stl vs now (shMake now q n k a b o).2) E ∧ C <+: E ∧ (shL (stl vs now (shMake now q n k a b o).2) ≠ -1 → calm (stl vs now (shMake now q n k a b o).2))) := by
  obtain ⟨G, ⟨hI, hY⟩, I, EE, sd, mn, fw, ob⟩ := R
  obtain ⟨H, eN, enow, T, ⟨hB, hK⟩, hv⟩ := id G
  have hQ := q_bound hI hY hK
  have hN16 := N16 hI
  have hO := oc_lt hI
  have hn16 : n < 16 := by omega
  obtain ⟨l1, l2, l3, l4, l5⟩ := hI.len hn
  obtain ⟨ev, rf, tk⟩ := fw n hn
  have len59 : (flE (shF q n)).length ≤ 59 := by
    by_cases c : (flE (shF q n)).length = 60
    · have := l3 c
      rw [l5] at this
      exact absurd this ok.1
    · omega
  have hk13 : k < 13 := ok.2.1
  generalize he : evNow (flE (shF q n)) k a b o = e
  obtain ⟨eok, ⟨e1, e12⟩, -⟩ := evNow_ok ok
  rw [he] at eok e1 e12
  have red := w_makes_red (KL := KL) (a := a) (b := b) (o := o) H hs hn16 rfl len59 (by omega : k < 16) ev.1
  rw [he] at red
  obtain ⟨h1, I1, f1, en1, rc1, alt⟩ := w_does (KL := KL) H hs eN (by omega) sd hI hl (by omega) e.1 n e.2.1 e.2.2.1 e.2.2.2
  have f1p := f1.mono (dwS_fp s (B + shQ q))
  have G1 : RG vs now TX B K h1 (B + shQ q + 1) := G.on f1p en1
  have H1 := G1.1
  have eH := shHappen_eq now q n k a b o rfl he
  obtain ⟨mk1, mk2⟩ := shMake_I hI hl hn ok now he
  -- rows and outbox behind the record
  have fw1 : fwAt h1 (B + shQ q + 1) s EE (shN q) (shF q) := fun x hx => by
    obtain ⟨y1, y2, y3⟩ := (fw.on hN16 f1 dwS_rec (fun a j g _ => dwS_row (by omega)) (fun a j g => dwS_row (by omega))) x hx
    exact ⟨y1.more (Nat.le_succ _), y2, y3⟩
  have mn1 : mnAt h1 s (shN q) := mn.on f1 (dwS_row (by omega)) (fun x _ => dwS_row (by omega))
  have ob1 : obAt h1 s (shO q) := ob.on f1 (dwS_row (by omega)) (fun a k g _ => dwS_row (by omega))
  rcases alt with ⟨ct, ed, sd1, l, hlZ, hlL, hI1, hIl⟩ | ⟨cf, D1, ed, sd1, ecm⟩
  · left
    have cut := shCommit_cut hlL hlZ hI.1.1 (by obtain ⟨l9, w, -⟩ := hI.w hl; have : l9 = l := (zi_eq (by have := w.1; have := hI.1.1; omega) (by have := hI.1.1; omega)).mp (w.2.1.symm.trans hlL); rw [← this]; exact w.2.2.1) e.1 n e.2.1 e.2.2.1 e.2.2.2
    obtain ⟨⟨⟨⟨t1, t2, t3, t4, t5⟩, -⟩, -⟩, cut2, -⟩ := cut
    obtain ⟨cL, cF⟩ := cut2 ct
    rw [if_neg (by rw [ct]; decide)] at eH
    have mkt : (shMake now q n k a b o).1 = true := by
      unfold shMake
      rw [eH, if_neg (fun z => Bool.noConfusion z)]
    obtain ⟨mI, mG, mL, mN, mE, mo⟩ := mk1 mkt
    refine ⟨mkt, ?_⟩
    have h5 := hI.1.1
    -- the record's place
    obtain ⟨⟨-, -, dk3, -⟩, ⟨dk5, dk6⟩, dk7, -⟩ := sd1.2.2.1 l (by omega)
    have len1 : (I1 l).length = C.length + 1 := by rw [hI1, List.length_append, hIl]; rfl
    have hCl : C.length ≤ shQ q := by rw [← hIl]; exact sd_len sd (fun x hx => (hI.2.2.1.2.1 x hx).1) l (by omega)
    have w39 : zE h1 639 (5 * s + l) = nI (C.length + 1) := by rw [dk3, ← dk5, len1]
    have w38 : zE h1 638 (8192 * (5 * s + l) + C.length) = nI (B + shQ q) := dk7 C.length _ (by rw [hI1, ← hIl, List.getElem?_append_right (Nat.le_refl _), Nat.sub_self]; rfl)
    have w45 : zE h1 645 s = nI l := by
      have := sd1.1.2.1
      rw [this]
      show shL (shCommit q e.1 n e.2.1 e.2.2.1 e.2.2.2).2 = _
      rw [cL, hlL]
    -- keep
    obtain ⟨ev1, rf1, tk1⟩ := fw1 n hn
    have l0 : flE (shF q n) ≠ [] := fun z => by rw [z] at l1; exact absurd l1 (by decide)
    obtain ⟨h2, ek, f2, ev2, ob2⟩ := w_keep (e := e) (t := shT q) (i := B + shQ q) H1 hs hn16 (by omega) ev1 (by omega) (fun z => absurd z l0) (by omega) ⟨by omega, rc1⟩ ob1 (by omega) (some C.length) (fun p hp => by have := Option.some.inj hp; omega)
    have f2p : frx (fpS s (B + shQ q)) h1 h2 := f2.mono (fun a j z => Or.inl (kpS_sh hn16 (by omega) (by omega) a j z))
    have en2 : zI h2 1224 616 = nI (B + shQ q + 1) := by rw [f2.2.2.1 1224 (by unfold kpS; omega)]; exact en1
    have G2 := G1.on f2p en2
    obtain ⟨H2, -, now2, T2, -⟩ := id G2
    have hz := hI.2.1.2.2 n (by rw [← hI.2.1.1]; exact hn)
    have prg : prgIs vs (flE (shF q n)) (flP (shF q n)) := by rw [hz.1]; exact hz.2.1
    obtain ⟨PP, g1, g2, g3, g4⟩ := (bkG_log hI.v).2.1 n (by rw [← hI.2.1.1]; exact hn)
    rw [← hz.1] at g3
    -- walk
    obtain ⟨h3, ew, f3, rf3, rw3⟩ := w_goThrough (P := flP (shF q n)) (now := now) H2 T2 hv (by omega : 16 * s + n < 64) (by omega) ev2 (hsOK_snoc l4 (by omega) eok) (by unfold prgIs; rw [evAt_snoc l1]; exact prg) (by rw [evAt_snoc l1]; exact g3) now2
    have f3p : frx (fpS s (B + shQ q)) h2 h3 := f3.mono (gtS_sh hn16 _)
    have H3 := H2.on f3
    have en3 : zI h3 1224 616 = nI (B + shQ q + 1) := by rw [f3.2.2.1 1224 (by unfold gtS; omega)]; exact en2
    have now3 : zI h3 1201 616 = now := by rw [f3.2.2.1 1201 (by unfold gtS; omega)]; exact now2
    -- task
    generalize hp9 : wkP (rpR (flP (shF q n)) (flE (shF q n) ++ [e])) = p9 at *
    have e51 : zE h3 651 (16 * s + n) = nI p9 := by rw [← hp9]; exact rf3.1.1
    have p95 : p9 ≤ 5 := by rw [← hp9]; exact rf3.1.2
    generalize hov : (if k < 10 ∧ (flE (shF q n)).length = 59 then (1 : Int32) else 0) = ov at *
    generalize hh4 : (if p9 = 0 then h3 else pE h3 660 (16 * s + n) 0) = h4
    have f4 : frx (tsS (16 * s + n)) h3 h4 := by
      rw [← hh4]
      split
      · exact frx.rf h3
      · exact frx_pE ⟨by omega, rfl⟩
    have H4 := H3.on f4
    have e514 : zE h4 651 (16 * s + n) = nI p9 := by rw [f4.2.2.2 651 _ (by unfold tsS; omega)]; exact e51
    have now4 : zI h4 1201 616 = now := by rw [f4.2.2.1 1201 (by unfold tsS; omega)]; exact now3
    have e158 := w_makes_158 (KL := KL) (ov := ov) H4 (by omega : 16 * s + n < 64) (by omega : k < 16) p95 e514 now4
    generalize hh5 : (if p9 = 0 ∧ k = 1 ∧ ov = 0 then tkH h4 (16 * s + n) now else h4) = h5 at *
    have f5 : frx (tsS (16 * s + n)) h4 h5 := by
      rw [← hh5]
      split
      · unfold tkH
        exact ((frx_pE ⟨by omega, rfl⟩).trans (frx_pE ⟨by omega, rfl⟩)).trans (frx_pE ⟨by omega, rfl⟩)
      · exact frx.rf h4
    have f45 := f4.trans f5
    have f25 : frx (rwS (16 * s + n)) h2 h5 := (f3.mono (fun a j z => Or.inl z)).trans (f45.mono (fun a j z => Or.inr z))
    have f25p : frx (fpS s (B + shQ q)) h2 h5 := f25.mono (rwS_fp hn16 _)
    have fall := (f1p.trans f2p).trans f25p
    obtain ⟨-, ⟨u1, u2, u3, u4, u5⟩, uF, uO⟩ := shMake_parts (now := now) he ct cF
    have uQ : shQ (shMake now q n k a b o).2 = shQ q + 1 := u5.trans t5
    have f15 : frx (fun a j => kpS (16 * s + n) s (flE (shF q n)).length (shO q).length a j ∨ rwS (16 * s + n) a j) h1 h5 := (f2.mono (fun a j z => Or.inl z)).trans (f25.mono (fun a j z => Or.inr z))
    have eF : shF (shMake now q n k a b o).2 n = (flRun (flTake (shF q n) e now) now).2 := by rw [uF]; exact if_pos rfl
    have fA := flTake_A hz (by rw [← hz.1]; exact l1) e now
    rw [← hz.1] at fA
    have eZ : (flRun (flTake (shF q n) e now) now).2 = (flP (shF q n), flE (shF q n) ++ [e], rpR (flP (shF q n)) (flE (shF q n) ++ [e]), flT (flTake (shF q n) e now)) := by rw [flRun_A fA, fA.1]; rfl
    have en5 : zI h5 1224 616 = nI (B + shQ q + 1) := by rw [f25.2.2.1 1224 (by unfold rwS gtS tsS; omega)]; exact en2
    refine ⟨h5, _, ?_, fall, ⟨?_, ⟨mI, mG.y hY⟩, I1, upf EE n (EE n ++ [B + shQ q]), ?_, ?_, ?_, ?_⟩, List.prefix_append _ _, ?_, fun x hx hxn y hy => ?_⟩
    · rw [red]
      have nx : (nI s).toNatClampNeg = s := zi_nat (by omega)
      have gx : ¬ nI s < 0 := zi_neg (by omega)
      have lx : ¬ 4 ≤ s := by omega
      have nw : (nI (16 * s + n)).toNatClampNeg = 16 * s + n := zi_nat (by omega)
      have gw : ¬ nI (16 * s + n) < 0 := zi_neg (by omega)
      have lw : ¬ 64 ≤ 16 * s + n := by omega
      have nl : (nI (5 * s + l)).toNatClampNeg = 5 * s + l := zi_nat (by omega)
      have gl : ¬ nI (5 * s + l) < 0 := zi_neg (by omega)
      have ll : ¬ 20 ≤ 5 * s + l := by omega
      have e8 : nI (8192 * (5 * s + l) + (C.length + 1)) - 1 = nI (8192 * (5 * s + l) + C.length) := zi_sub (b := 1) (by omega)
      have n8 : (nI (8192 * (5 * s + l) + C.length)).toNatClampNeg = 8192 * (5 * s + l) + C.length := zi_nat (by omega)
      have g8 : ¬ nI (8192 * (5 * s + l) + C.length) < 0 := zi_neg (by omega)
      have l8 : ¬ 163840 ≤ 8192 * (5 * s + l) + C.length := by omega
      have ec : nI (C.length + 1) - 1 = nI C.length := zi_sub (b := 1) (by omega)
      have ek : f_X11_keep 616 (nI (16 * s + n)) (nI (B + shQ q)) (nI C.length) h1 = some h2 := ek
      have p0 : nI p9 = (0 : Int32) ↔ p9 = 0 := zi_eq (b := 0) (by omega) (by omega)
      by_cases c0 : p9 = 0
      · have d0 := eq_true (p0.mpr c0)
        rw [if_pos c0] at hh4
        rw [← hh4] at e158
        simp only [f_X11_makes_80, o10, o00, bh, isO, inR, ck_true, bind_some9, Nat.reduceLeDiff, Nat.reduceEqDiff, and_self, and_true, true_and, false_and, and_false, not_false_eq_true, not_true_eq_false, or_self, or_false, false_or, if_true, if_false, reduceIte, RF_o H, RF_1230 H, RO_638 H, RL_638 H, RF_1231 H, RO_639 H, RL_639 H, RF_1237 H, RO_645 H, RL_645 H, RF_1243 H, RO_651 H, RL_651 H, RF_1252 H, RO_660 H, RL_660 H, zR_pE, zT_pE, zL_pE, zn_pE, zE_pE, zI_pE, zR_pI, zT_pI, zL_pI, zn_pI, zE_pI, zI_pI, RF_o H1, RF_1237 H1, RO_645 H1, RL_645 H1, RF_1231 H1, RO_639 H1, RL_639 H1, RF_1230 H1, RO_638 H1, RL_638 H1, RF_o H2, RF_o H3, RF_1243 H3, RO_651 H3, RL_651 H3, ed, nx, gx, lx, w45, zi_five, nl, gl, ll, w39, zi_big, e8, n8, g8, l8, w38, ec, ek, ew, nw, gw, lw, e51, d0, e158]
      · have d0 := eq_false (fun z => c0 (p0.mp z))
        rw [if_neg c0] at hh4
        rw [← hh4] at e158
        simp only [f_X11_makes_80, o10, o00, bh, isO, inR, ck_true, bind_some9, Nat.reduceLeDiff, Nat.reduceEqDiff, and_self, and_true, true_and, false_and, and_false, not_false_eq_true, not_true_eq_false, or_self, or_false, false_or, if_true, if_false, reduceIte, RF_o H, RF_1230 H, RO_638 H, RL_638 H, RF_1231 H, RO_639 H, RL_639 H, RF_1237 H, RO_645 H, RL_645 H, RF_1243 H, RO_651 H, RL_651 H, RF_1252 H, RO_660 H, RL_660 H, zR_pE, zT_pE, zL_pE, zn_pE, zE_pE, zI_pE, zR_pI, zT_pI, zL_pI, zn_pI, zE_pI, zI_pI, RF_o H1, RF_1237 H1, RO_645 H1, RL_645 H1, RF_1231 H1, RO_639 H1, RL_639 H1, RF_1230 H1, RO_638 H1, RL_638 H1, RF_o H2, RF_o H3, RF_1243 H3, RO_651 H3, RL_651 H3, RF_1252 H3, RO_660 H3, RL_660 H3, ed, nx, gx, lx, w45, zi_five, nl, gl, ll, w39, zi_big, e8, n8, g8, l8, w38, ec, ek, ew, nw, gw, lw, e51, d0, e158]
    · rw [uQ]; exact G.on fall en5
    · rw [uQ]
      refine (sdAt_same sd1 u1 u2 u3 u4).on f15 (fun a i _ => ?_) (fun a j z => ?_) (fun a g => ?_)
      · by_cases cc : a < 633 ∨ 637 < a
        · exact Or.inr cc
        · left; unfold kpS rwS gtS tsS; omega
      · obtain ⟨r, -, z⟩ := z
        unfold dkS at z
        unfold kpS rwS gtS tsS
        omega
      · unfold kpS rwS gtS tsS; omega
    · rw [mN]
      refine ⟨⟨?_, hN16⟩, fun x g1 g2 => ?_⟩
      · rw [f15.2.2.2 647 s (by unfold kpS rwS gtS tsS; omega)]; exact mn1.1.1
      · rw [f15.2.2.2 660 _ (by unfold kpS rwS gtS tsS; omega)]; exact mn1.2 x g1 g2
    · rw [mN, uF, uQ]
      refine fw_row (n := n) (fun x hx _ => fw1 x hx) f15 (fun a i _ => ?_) (fun x hx hxn a g => ?_) (fun x hx hxn j g => ?_) (fun x hx hxn j g => ?_) (fun _ => ?_)
      · by_cases cc : a < 633 ∨ 637 < a
        · exact Or.inr cc
        · left; unfold kpS rwS gtS tsS; omega
      · unfold kpS rwS gtS tsS; omega
      · unfold kpS rwS gtS tsS; omega
      · unfold kpS rwS gtS tsS; omega
      · rw [eZ]
        refine ⟨ev2.on f25 (fun a i _ => by unfold rwS gtS tsS; omega) (fun a j z => by unfold evS at z; unfold rwS gtS tsS; omega), rf3.on f45 (fun a g => by unfold tsS; omega) (fun v _ => by unfold tsS; omega), ?_⟩
        unfold tkAt
        show zE h5 660 (16 * s + n) = (if wkP (rpR (flP (shF q n)) (flE (shF q n) ++ [e])) = 0 then (if (flT (flTake (shF q n) e now)).2.2.2.2.1 = 0 then 1 else 2) else 0) ∧ (wkP (rpR (flP (shF q n)) (flE (shF q n) ++ [e])) = 0 → (zE h5 661 (16 * s + n) = (flT (flTake (shF q n) e now)).2.2.2.1 ∧ zE h5 664 (16 * s + n) = (flT (flTake (shF q n) e now)).2.2.1) ∧ ((flT (flTake (shF q n) e now)).2.2.2.2.1 ≠ 0 → zE h5 663 (16 * s + n) = (flT (flTake (shF q n) e now)).2.2.2.2.1 ∧ zE h5 662 (16 * s + n) = (flT (flTake (shF q n) e now)).2.2.2.2.2))
        rw [hp9]
        have eT : flT (flTake (shF q n) e now) = (if e.1 = 1 then tkOpen (flT (shF q n)) e.2.1 e.2.2.1 now else if e.1 = 2 ∨ e.1 = 3 ∨ 10 ≤ e.1 then tkFree (flT (shF q n)) else flT (shF q n)) := rfl
        have cond : e.1 = 1 ↔ (k = 1 ∧ ov = 0) := by
          rw [← he, ← hov]
          unfold evNow
          by_cases c59 : k < 10 ∧ (flE (shF q n)).length = 59
          · rw [if_pos (by simp; omega), if_pos c59]
            exact ⟨fun z => absurd z (show ¬ 12 = 1 by decide), fun z => absurd z.2 (by decide)⟩
          · rw [if_neg (by simp; omega), if_neg c59]
            exact ⟨fun z => ⟨z, rfl⟩, fun z => z.1⟩
        by_cases c0 : p9 = 0
        · rw [if_pos c0]
          by_cases ce : e.1 = 1
          · rw [if_pos ⟨c0, cond.mp ce⟩] at hh5
            rw [eT, if_pos ce]
            rw [← hh5]
            unfold tkH
            refine ⟨?_, fun _ => ⟨⟨?_, ?_⟩, fun z => absurd rfl z⟩⟩
            · rw [zE_pE, if_neg (by omega), zE_pE, if_neg (by omega), zE_pE, if_pos ⟨rfl, rfl⟩]
              exact (if_pos rfl).symm
            · rw [zE_pE, if_pos ⟨rfl, rfl⟩]; rfl
            · rw [zE_pE, if_neg (by omega), zE_pE, if_pos ⟨rfl, rfl⟩]; rfl
          · rw [if_neg (fun z => ce (cond.mpr z.2))] at hh5
            rw [if_pos c0] at hh4
            obtain ⟨b1, b2, b3⟩ := phase0_back l1 eok (by rw [hp9]; exact c0) ce
            rw [eT, if_neg ce, if_neg (show ¬ (e.1 = 2 ∨ e.1 = 3 ∨ 10 ≤ e.1) by omega), ← hh5, ← hh4]
            have tk3 : tkAt h3 (16 * s + n) (shF q n) := (tk1.on f2 (fun a g1 g2 => by unfold kpS; omega)).on f3 (fun a g1 g2 => by unfold gtS; omega)
            unfold tkAt at tk3
            rw [l5, b1] at tk3
            rw [if_pos rfl] at tk3
            exact ⟨tk3.1, fun _ => tk3.2 rfl⟩
        · rw [if_neg c0]
          refine ⟨?_, fun z => absurd z c0⟩
          rw [← hh5, if_neg (fun z => c0 z.1), ← hh4, if_neg c0, zE_pE, if_pos ⟨rfl, rfl⟩]
    · rw [uO, t4]
      have hRecs : shRecs q = C.length := by
        obtain ⟨l9, w, hC⟩ := hI.w hl
        rw [(shLog_of w.2.1 (by have := w.1; omega)).2, hC]
      have fM : isMsg (flTake (shF q n) e now) e.1 = bkMsg (flE (shF q n)) e.1 := by rw [isMsg_bk, fA.1, bkMsg_snoc _ l1]
      have fL : (flE (flTake (shF q n) e now)).length - 1 = (flE (shF q n)).length := by rw [fA.1, List.length_append]; rfl
      rw [fM, fL, hRecs]
      exact ob2.on f25 (by unfold rwS gtS tsS; omega) (fun a k g _ => by unfold rwS gtS tsS; omega)
    · rw [eF, eZ]
      exact rw3.on f45 (fun a g => by unfold tsS; omega)
    · rw [f15.2.2.2 y _ (by unfold kpS rwS gtS tsS; omega), f1.2.2.2 y _ (dwS_row (by omega))]
  · right
    have eM : shMake now q n k a b o = (false, shLose (shSetD (shTried q) D1)) := by
      unfold shMake
      rw [eH, if_pos cf, if_pos rfl, ecm]
    have mkf : (shMake now q n k a b o).1 = false := by rw [eM]
    refine ⟨mkf, ?_⟩
    obtain ⟨a1, a2, a3, a4, a5⟩ := mk2 mkf
    rw [eM] at a1 a2 a5
    rw [eM]
    obtain ⟨h2, E, b1, b2, b3, b4, b5⟩ := kl h1 (shSetD (shTried q) D1) C ⟨G1, ⟨a1, a2.y hY⟩, by
      have a5 : upsN (shZ q) D1 + 1 ≤ upsN (shZ q) (shD q) := a5
      show upsN (shZ q) D1 ≤ m
      omega, I1, EE, sd1, mn1, fw1, ob1⟩
    have b2 : frx (fpS s (B + (shQ q + 1))) h1 h2 := b2
    refine ⟨h2, E, ?_, f1p.trans (b2.mono (fpS_le (by omega))), b3, b4, b5⟩
    rw [red]
    have b1 : KL 616 (nI s) h1 = some h2 := b1
    rw [b1] at ed
    have ed : f_X11_does KL 616 (nI s) (nI n) (nI e.1) e.2.1 e.2.2.1 e.2.2.2 h = some (0, h2) := ed
    simp only [f_X11_makes_80, o10, o00, bh, isO, inR, ck_true, bind_some9, Nat.reduceLeDiff, Nat.reduceEqDiff, and_self, and_true, true_and, false_and, and_false, not_false_eq_true, not_true_eq_false, or_self, or_false, false_or, if_true, if_false, reduceIte, RF_o H, RF_1230 H, RO_638 H, RL_638 H, RF_1231 H, RO_639 H, RL_639 H, RF_1237 H, RO_645 H, RL_645 H, RF_1243 H, RO_651 H, RL_651 H, RF_1252 H, RO_660 H, RL_660 H, zR_pE, zT_pE, zL_pE, zn_pE, zE_pE, zI_pE, zR_pI, zT_pI, zL_pI, zn_pI, zE_pI, zI_pI, ed]
/-! GOING ON, IN THE REFERENCE -/
theorem w_goesOn_go {vs : Nat → List Prg} {now : Int32} {TX : List (Nat × Nat × Nat × Prg)} {B K s m : Nat} {KL : Nat → Int32 → Hp → Option Hp} (hs : s < 4) (kl : KLok vs now TX B K s m KL) {n : Nat} : ∀ (i fuel : Nat) (h : Hp) (q : Shd) (C : List Rec), RS vs now TX B K s h q C → shL q ≠ -1 → n < shN q → upsN (shZ q) (shD q) ≤ m + 1 → rfW h (16 * s + n) (flE (shF q n)) (flP (shF q n)) now → 60 ≤ i + (flE (shF q n)).length → i < fuel →
    ∃ r h1 E, f_X11_goesOn_2 KL fuel 616 (nI (16 * s + n)) 1 h = some (r, h1) ∧ frx (fpS s (B + shQ q)) h h1 ∧ C <+: E ∧
      ((shL (shGoL now n i (flRun (shF q n) now).1 q) ≠ -1 ∧ r = 1 ∧ RS vs now TX B K s h1 (shGoL now n i (flRun (shF q n) now).1 q) E ∧ ∀ x, x < 16 → x ≠ n → ∀ y, (y = 656 ∨ y = 657 ∨ y = 658) → zE h1 y (16 * s + x) = zE h y (16 * s + x)) ∨
       (shL (shGoL now n i (flRun (shF q n) now).1 q) = -1 ∧ r = 0 ∧ RS vs now TX B K s h1 (stl vs now (shGoL now n i (flRun (shF q n) now).1 q)) E ∧ (shL (stl vs now (shGoL now n i (flRun (shF q n) now).1 q)) ≠ -1 → calm (stl vs now (shGoL now n i (flRun (shF q n) now).1 q)))))
  | i, 0, h, q, C, _, _, _, _, _, _, hf => absurd hf (Nat.not_lt_zero _)
  | i, fuel + 1, h, q, C, R, hl, hn, hm, hw, hi, hf => by
    have hI := R.2.1.1
    have hN16 := N16 hI
    have H := R.1.1
    have hz := hI.2.1.2.2 n (by rw [← hI.2.1.1]; exact hn)
    obtain ⟨l1, l2, l3, l4, l5⟩ := hI.len hn
    have ew : (flRun (shF q n) now).1 = if wkP (flW (shF q n)) ≠ 5 then none else wkWish (flP (shF q n)) (rpO (flE (shF q n))) now (flW (shF q n)) := by rw [flRun_Zeq hz, hz.1]
    have rf : rfF h (16 * s + n) (flE (shF q n)) (flP (shF q n)) := by
      obtain ⟨-, -, I, EE, -, -, fw, -⟩ := R
      exact (fw n hn).2.1
    have e51 := rf.1.1
    have p5 := rf.1.2
    have nw : (nI (16 * s + n)).toNatClampNeg = 16 * s + n := zi_nat (by omega)
    have gw : ¬ nI (16 * s + n) < 0 := zi_neg (by omega)
    have lw : ¬ 64 ≤ 16 * s + n := by omega
    have q5 : nI (wkP (rpR (flP (shF q n)) (flE (shF q n)))) = (5 : Int32) ↔ wkP (rpR (flP (shF q n)) (flE (shF q n))) = 5 := zi_eq (b := 5) (by omega) (by omega)
    by_cases c5 : wkP (flW (shF q n)) = 5
    · rw [if_neg (fun z => z c5)] at ew
      have c5r := c5
      rw [l5] at c5r
      obtain ⟨kd, a, b, y1, y2, y3, y4, y5⟩ := hw c5r
      rw [← l5] at y1
      rw [y1] at ew
      have d5 := eq_true (q5.mpr c5r)
      have ok : evOK (flP (shF q n)) (flE (shF q n)) (kd, a, b, 0) := wish_evOK (now := now) c5r (by rw [← l5]; exact y1)
      obtain ⟨i, rfl⟩ : ∃ j, i = j + 1 := by
        cases i with
        | zero => exact absurd (l3 (by omega)) (by omega)
        | succ j => exact ⟨j, rfl⟩
      rw [ew, shGoL_make]
      rcases w_makes hs R hl kl hm hn ok with ⟨mt, h1, E, m1, m2, m3, m4, m5, m6⟩ | ⟨mf, h1, E, m1, m2, m3, m4, m5⟩
      · rw [if_neg (by rw [mt]; decide)]
        obtain ⟨-, mG, mL, mN, mE, -⟩ := (shMake_I hI hl hn ok now rfl).1 mt
        have mu := mG.2.2.2.2.1
        have mz := mG.2.2.1
        have mq := mG.2.2.2.1
        obtain ⟨r, h2, F, g1, g2, g3, g4⟩ := w_goesOn_go hs kl i fuel h1 (shMake now q n kd a b 0).2 E m3 (by rw [mL]; exact hl) (by rw [mN]; exact hn) (by rw [mz]; omega) m5 (by rw [mE, List.length_append]; simp; omega) (by omega)
        refine ⟨r, h2, F, ?_, m2.trans (g2.mono (fpS_le (by omega))), m4.trans g3, ?_⟩
        · simp only [f_X11_goesOn_2, o10, o00, bh, isO, inR, ck_true, bind_some9, Nat.reduceLeDiff, Nat.reduceEqDiff, and_self, and_true, true_and, false_and, and_false, not_false_eq_true, not_true_eq_false, or_self, or_false, false_or, if_true, if_false, reduceIte, RF_o H, RF_1243 H, RO_651 H, RL_651 H, RF_1248 H, RO_656 H, RL_656 H, RF_1249 H, RO_657 H, RL_657 H, RF_1250 H, RO_658 H, RL_658 H, zR_pE, zT_pE, zL_pE, zn_pE, zE_pE, zI_pE, zR_pI, zT_pI, zL_pI, zn_pI, zE_pI, zI_pI, nw, gw, lw, e51, d5, y3, y4, y5, m1, g1]
        · rcases g4 with ⟨z1, z2, z3, z4⟩ | z
          · exact Or.inl ⟨z1, z2, z3, fun x hx hxn y hy => by rw [z4 x hx hxn y hy, m6 x hx hxn y hy]⟩
          · exact Or.inr z
      · rw [if_pos mf]
        have ml := ((shMake_I hI hl hn ok now rfl).2 mf).2.2.1
        obtain ⟨fuel, rfl⟩ : ∃ j, fuel = j + 1 := ⟨fuel - 1, by omega⟩
        refine ⟨0, h1, E, ?_, m2, m4, Or.inr ⟨ml, rfl, m3, m5⟩⟩
        simp only [f_X11_goesOn_2, o10, o00, bh, isO, inR, ck_true, bind_some9, Nat.reduceLeDiff, Nat.reduceEqDiff, and_self, and_true, true_and, false_and, and_false, not_false_eq_true, not_true_eq_false, or_self, or_false, false_or, if_true, if_false, reduceIte, RF_o H, RF_1243 H, RO_651 H, RL_651 H, RF_1248 H, RO_656 H, RL_656 H, RF_1249 H, RO_657 H, RL_657 H, RF_1250 H, RO_658 H, RL_658 H, zR_pE, zT_pE, zL_pE, zn_pE, zE_pE, zI_pE, zR_pI, zT_pI, zL_pI, zn_pI, zE_pI, zI_pI, nw, gw, lw, e51, d5, y3, y4, y5, m1, iB0]
    · rw [if_pos c5] at ew
      have c5r : ¬ wkP (rpR (flP (shF q n)) (flE (shF q n))) = 5 := by rw [← l5]; exact c5
      have d5 := eq_false (fun z => c5r (q5.mp z))
      have e1 : shGoL now n i (flRun (shF q n) now).1 q = q := by rw [ew]; cases i <;> rfl
      rw [e1]
      refine ⟨1, h, C, ?_, frx.rf h, List.prefix_refl _, Or.inl ⟨hl, rfl, R, fun _ _ _ _ _ => rfl⟩⟩
      simp only [f_X11_goesOn_2, o10, o00, bh, isO, inR, ck_true, bind_some9, Nat.reduceLeDiff, Nat.reduceEqDiff, and_self, and_true, true_and, false_and, and_false, not_false_eq_true, not_true_eq_false, or_self, or_false, false_or, if_true, if_false, reduceIte, RF_o H, RF_1243 H, RO_651 H, RL_651 H, RF_1248 H, RO_656 H, RL_656 H, RF_1249 H, RO_657 H, RL_657 H, RF_1250 H, RO_658 H, RL_658 H, zR_pE, zT_pE, zL_pE, zn_pE, zE_pE, zI_pE, zR_pI, zT_pI, zL_pI, zn_pI, zE_pI, zI_pI, nw, gw, lw, e51, d5, iB1]
theorem w_goesOn {vs : Nat → List Prg} {now : Int32} {TX : List (Nat × Nat × Nat × Prg)} {B K s m : Nat} {KL : Nat → Int32 → Hp → Option Hp} (hs : s < 4) (kl : KLok vs now TX B K s m KL) {n : Nat} {h : Hp} {q : Shd} {C : List Rec} (R : RS vs now TX B K s h q C) (hl : shL q ≠ -1) (hn : n < shN q) (hm : upsN (shZ q) (shD q) ≤ m + 1) (hw : rfW h (16 * s + n) (flE (shF q n)) (flP (shF q n)) now) :
    ∃ r h1 E, f_X11_goesOn KL 616 (nI (16 * s + n)) h = some (r, h1) ∧ frx (fpS s (B + shQ q)) h h1 ∧ C <+: E ∧
      ((shL (shGo now q n) ≠ -1 ∧ r = 1 ∧ RS vs now TX B K s h1 (shGo now q n) E ∧ ∀ x, x < 16 → x ≠ n → ∀ y, (y = 656 ∨ y = 657 ∨ y = 658) → zE h1 y (16 * s + x) = zE h y (16 * s + x)) ∨
       (shL (shGo now q n) = -1 ∧ r = 0 ∧ RS vs now TX B K s h1 (stl vs now (shGo now q n)) E ∧ (shL (stl vs now (shGo now q n)) ≠ -1 → calm (stl vs now (shGo now q n))))) := by
  have hI := R.2.1.1
  have hz := hI.2.1.2.2 n (by rw [← hI.2.1.1]; exact hn)
  have e : shGo now q n = shGoL now n 60 (flRun (shF q n) now).1 q := by
    unfold shGo
    rw [show (flRun (shF q n) now).2 = shF q n by rw [flRun_Zeq hz], setF_same]
  rw [e]
  exact w_goesOn_go hs kl 60 fz h q C R hl hn hm hw (by omega) (fz_big (by omega))
