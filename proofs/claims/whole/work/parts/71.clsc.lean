/-! ACTS ON A SHARD OF THE CLASS -/
def usum (u : Nat → Nat) : Nat := u 0 + u 1 + u 2 + u 3 + u 4
theorem usum_up (u : Nat → Nat) {r : Nat} (hr : r < 5) (x : Nat) : usum (upf u r x) + u r = usum u + x := by
  have e : r = 0 ∨ r = 1 ∨ r = 2 ∨ r = 3 ∨ r = 4 := by omega
  rcases e with rfl | rfl | rfl | rfl | rfl <;> (unfold usum upf; simp; omega)
def acC (s : Nat) (h : Hp) (own u : Nat → Nat) (v : Nat) (h1 : Hp) (own1 u1 : Nat → Nat) (v1 : Nat) : Prop := exO own own1 h ∧ cf (fun a _ => own a / 10 = s) h h1 ∧ zs h1 + 1024 * usum u + 96 * v ≤ zs h + 1024 * usum u1 + 96 * v1 ∧ zn h1 + usum u + 3 * v ≤ zn h + usum u1 + 3 * v1
theorem acC.rf (s : Nat) (h : Hp) (own u : Nat → Nat) (v : Nat) : acC s h own u v h own u v := ⟨exO.rf own h, cf.rf h, Nat.le_refl _, Nat.le_refl _⟩
theorem acC.tr {s : Nat} {h h1 h2 : Hp} {own u own1 u1 own2 u2 : Nat → Nat} {v v1 v2 : Nat} (p : acC s h own u v h1 own1 u1 v1) (q : acC s h1 own1 u1 v1 h2 own2 u2 v2) : acC s h own u v h2 own2 u2 v2 := by
  obtain ⟨p1, p2, p3, p4⟩ := p
  obtain ⟨q1, q2, q3, q4⟩ := q
  exact ⟨p1.tr q1 p2.1, p2.tr2 q2 (fun a j ha z => by rw [p1 a ha] at z; exact z), by omega, by omega⟩
theorem acC.nz {s : Nat} {h h1 : Hp} {own u : Nat → Nat} {v : Nat} (f : cf (fun a _ => own a / 10 = s) h h1) (n : nz h h1) : acC s h own u v h1 own u v := by
  have e1 : zn h1 = zn h := congrArg Prod.fst n
  have e2 : zs h1 = zs h := congrArg Prod.snd n
  exact ⟨exO.rf own h, f, by omega, by omega⟩
/-- cells of a shard -/
theorem ow8 {own : Nat → Nat} (w : owS own) {s o : Nat} (hs : s < 4) (ho : o < 146) (h1 : ¬ (5 ≤ o ∧ o ≤ 7)) (h2 : ¬ (9 ≤ o ∧ o ≤ 17 ∧ o % 2 = 1)) : own (shA s + o) / 10 = s := by rw [ow_at w hs ho h1 h2]; omega
theorem ow_lo {own : Nat → Nat} (w : owS own) {a : Nat} (h : a < 32) {s : Nat} (hs : s < 4) : ¬ own a / 10 = s := by rw [ow_low w h]; omega
/-- one disk changes -/
theorem shC.disk {h h1 : Hp} {own own1 : Nat → Nat} {S : Nat → Nat → Prop} {s v r ur : Nat} {u : Nat → Nat} {q : Shd} {d : Dk} (k : shC h own s u v q) (w : owS own) (hs : s < 4) (hr : r < 5) (f : cf S h h1) (e : exO own own1 h) (hS : ∀ a j, S a j → (a = shA s + (8 + 2 * r)) ∨ own a = 10 * s + r) (dk : dkO h1 own1 s r ur d) : shC h1 own1 s (upf u r ur) v (shSetD q (upf (shD q) r d)) := by
  obtain ⟨k1, k2, k3, k4, ⟨kN, k5⟩, k6⟩ := k
  have no8 : ∀ o, o < 146 → ¬ (5 ≤ o ∧ o ≤ 7) → ¬ (9 ≤ o ∧ o ≤ 17 ∧ o % 2 = 1) → o ≠ 8 + 2 * r → ∀ j, ¬ S (shA s + o) j := fun o h1 h2 h3 h4 j z => by
    rcases hS _ _ z with z | z
    · omega
    · rw [ow_at w hs h1 h2 h3] at z; omega
  have nox : ∀ a j, own a ≠ 10 * s + 8 → own a ≠ 10 * s + r → ¬ S a j := fun a j h1 h2 z => by
    rcases hS _ _ z with z | z
    · rw [z, ow_at w hs (by omega) (by omega) (by omega)] at h1; exact h1 rfl
    · exact h2 z
  refine ⟨k1.on f (fun j _ _ => no8 0 (by omega) (by omega) (by omega) (by omega) j) (fun a j ha => ?_), k2.on k1.1.1 f (fun j _ _ => no8 0 (by omega) (by omega) (by omega) (by omega) j), fun x hx => ?_, fun n hn => (k4 n hn).on f (fun a j h1 h2 _ => ?_), ⟨kN, fun n hn => ?_⟩, k6.on k1.2.2.2.2 f e (fun j => no8 4 (by omega) (by omega) (by omega) (by omega) j) (fun a j ha => nox a j (by omega) (by omega))⟩
  · rcases ha with ha | ha <;> rw [ha]
    · exact no8 1 (by omega) (by omega) (by omega) (by omega) j
    · exact no8 2 (by omega) (by omega) (by omega) (by omega) j
  · show dkO h1 own1 s x (upf u r ur x) (upf (shD q) r d x)
    by_cases c : x = r
    · rw [show upf u r ur x = ur from if_pos c, show upf (shD q) r d x = d from if_pos c, c]; exact dk
    · rw [show upf u r ur x = u x from if_neg c, show upf (shD q) r d x = shD q x from if_neg c]
      exact (k3 x hx).on f e (fun j _ _ => no8 _ (by omega) (by omega) (by omega) (by omega) j) (fun a j ha => nox a j (by omega) (by omega))
  · have : a = shA s + (a - shA s) := by omega
    rw [this]
    exact no8 _ (by omega) (by omega) (by omega) (by omega) j
  · have hn16 : n < 16 := Nat.lt_of_lt_of_le hn kN
    have o := (k4 n hn16).1.1.1
    rw [f.R o (no8 _ (by omega) (by omega) (by omega) (by omega) _)]
    exact (k5 n hn).on f e (fun a j ha => nox a j (by omega) (by omega))
/-- a record row of the heap -/
def rwC (h : Hp) (s : Nat) (r : Rec) : Prop := ∀ k, k < 16 → zE h (shA s + 3) k = cBt r k
theorem c_diskW {h : Hp} {own : Nat → Nat} {s v r : Nat} {u : Nat → Nat} {q : Shd} {rc : Rec} (k : shC h own s u v q) (w : owS own) (hs : s < 4) (hr : r < 5) (row : rwC h s rc) (hm : rcM rc) (ok : dkOK (shD q r)) (hl : (dkL (shD q r)).length ≤ 3922) : ∃ h1 own1 ur, f_X5_write (shA s + (8 + 2 * r)) (shA s + 3) 0 16 h = some h1 ∧ shC h1 own1 s (upf u r ur) v (shSetD q (upf (shD q) r (dkWrite (shD q r) rc))) ∧ acC s h own u v h1 own1 (upf u r ur) v ∧ rwC h1 s rc := by
  obtain ⟨B, y, oB, dm⟩ := k.2.2.1 r hr
  obtain ⟨-, -, -, ⟨o3, l3⟩, -⟩ := k.1
  have own3 : own (shA s + 3) = 10 * s + 8 := ow_at w hs (by omega) (by omega) (by omega)
  have ownD : own (shA s + (8 + 2 * r)) = 10 * s + 8 := ow_at w hs (by omega) (by omega) (by omega)
  have n1 : shA s + (8 + 2 * r) ≠ B := fun z => by rw [z, oB] at ownD; omega
  have n2 : shA s + 3 ≠ B := fun z => by rw [z, oB] at own3; omega
  obtain ⟨h1, B1, u1, x1, x2, x3, x4, x5⟩ := c_write (rs := [rc]) (i := 0) y ok n1 (by omega) n2 o3 l3 (by omega) (by show 0 + 16 * 1 ≤ 16; omega) (fun k9 hk => by
    have hk : k9 < 16 * 1 := hk
    rw [Nat.zero_add, row k9 (by omega), show k9 / 16 = 0 by omega, show k9 % 16 = k9 by omega]
    rfl) (by show 16 * ((dkL (shD q r)).length + 1) + 16 ≤ 62800; omega)
  have x1 : f_X5_write (shA s + (8 + 2 * r)) (shA s + 3) 0 16 h = some h1 := x1
  have oB1 := x2.1.2.2.1.2.1
  have ex : exO own (fun a => if a < zn h then own a else 10 * s + r) h := fun a ha => if_pos ha
  have oB2 : (if B1 < zn h then own B1 else 10 * s + r) = 10 * s + r := by
    rcases x3 with z | z
    · rw [z]
      split
      · exact oB
      · rfl
    · rw [if_neg (by omega)]
  refine ⟨h1, fun a => if a < zn h then own a else 10 * s + r, u1, x1, k.disk w hs hr x4 ex (fun a j z => ?_) ⟨B1, x2, oB2, dkM_write dm hm⟩, ⟨ex, x4.mono (fun a j _ z => ?_), ?_, ?_⟩, fun k9 hk => ?_⟩
  · rcases z with z | z
    · exact Or.inl z.1
    · rw [z]; exact Or.inr oB
  · rcases z with z | z
    · rw [z.1, ownD]; omega
    · rw [z, oB]; omega
  · have := usum_up u hr u1
    unfold rmD at x5
    omega
  · have := usum_up u hr u1
    unfold rmD at x5
    omega
  · rw [x4.E o3 (fun z => by
      rcases z with z | z
      · omega
      · exact n2 z)]
    exact row k9 hk
/-- one workflow changes -/
theorem shC.row {h h1 : Hp} {own : Nat → Nat} {S : Nat → Nat → Prop} {s v n : Nat} {u : Nat → Nat} {q : Shd} {f9 : Flw} (k : shC h own s u v q) (w : owS own) (hs : s < 4) (hn : n < 16) (f : cf S h h1) (hS : ∀ a j, S a j → shA s + (18 + 8 * n) ≤ a ∧ a ≤ shA s + (18 + 8 * n) + 7) (wf : wfC h1 (shA s + (18 + 8 * n)) (s + 4 * n) f9) (pr : n < shN q → prC h1 own (zR h1 1004 (shA s + (18 + 8 * n))) (flP f9)) : shC h1 own s u v (shSetF q n f9) := by
  obtain ⟨k1, k2, k3, k4, ⟨kN, k5⟩, k6⟩ := k
  have e : exO own own h := exO.rf own h
  have lowA : ∀ o j, o < 18 → ¬ S (shA s + o) j := fun o j ho z => by have := hS _ _ z; omega
  have own8 : ∀ a j, S a j → own a = 10 * s + 8 := fun a j z => by
    have hz := hS _ _ z
    have : a = shA s + (a - shA s) := by omega
    rw [this]
    exact ow_at w hs (by omega) (by omega) (by omega)
  have nox : ∀ a j, own a ≠ 10 * s + 8 → ¬ S a j := fun a j h1 z => h1 (own8 a j z)
  refine ⟨k1.on f (fun j _ _ => lowA 0 j (by omega)) (fun a j ha => ?_), k2.on k1.1.1 f (fun j _ _ => lowA 0 j (by omega)), fun x hx => (k3 x hx).on f e (fun j _ _ => lowA _ j (by omega)) (fun a j ha => nox a j (by omega)), fun x hx => ?_, ⟨kN, fun x hx => ?_⟩, k6.on k1.2.2.2.2 f e (fun j => lowA 4 j (by omega)) (fun a j ha => nox a j (by omega))⟩
  · rcases ha with ha | ha <;> rw [ha]
    · exact lowA 1 j (by omega)
    · exact lowA 2 j (by omega)
  · show wfC h1 _ _ (upf (shF q) n f9 x)
    by_cases c : x = n
    · rw [show upf (shF q) n f9 x = f9 from if_pos c, c]; exact wf
    · rw [show upf (shF q) n f9 x = shF q x from if_neg c]
      exact (k4 x hx).on f (fun a j h1 h2 _ z => by have := hS _ _ z; omega)
  · have hx : x < shN q := hx
    show prC h1 own _ (flP (upf (shF q) n f9 x))
    by_cases c : x = n
    · rw [show upf (shF q) n f9 x = f9 from if_pos c, c]; exact pr (by omega)
    · rw [show upf (shF q) n f9 x = shF q x from if_neg c, f.R (k4 x (by omega)).1.1.1 (fun z => by have := hS _ _ z; omega)]
      exact (k5 x hx).on f e (fun a j ha => nox a j (by omega))
/-- only the shard's own numbers change -/
theorem shC.sc {h h1 : Hp} {own : Nat → Nat} {s v : Nat} {u : Nat → Nat} {q q1 : Shd} (k : shC h own s u v q) (w : owS own) (hs : s < 4) (f : cf (fun a j => a = shA s ∧ 707 ≤ j ∧ j ≤ 711) h h1) (sc : scC h1 s q1) (eD : shD q1 = shD q) (eF : shF q1 = shF q) (eO : shO q1 = shO q) (eN : shN q1 ≤ shN q) : shC h1 own s u v q1 := by
  obtain ⟨k1, k2, k3, k4, ⟨kN, k5⟩, k6⟩ := k
  have e : exO own own h := exO.rf own h
  have ownA : own (shA s) = 10 * s + 8 := ow_at (o := 0) w hs (by omega) (by omega) (by omega)
  refine ⟨k1.on f (fun j _ _ => by omega) (fun a j ha => by omega), sc, fun x hx => ?_, fun x hx => ?_, ⟨by omega, fun x hx => ?_⟩, ?_⟩
  · rw [eD]
    exact (k3 x hx).on f e (fun j _ _ => by omega) (fun a j ha z => by rw [z.1, ownA] at ha; omega)
  · rw [eF]
    exact (k4 x hx).on f (fun a j h1 h2 _ z => by omega)
  · rw [eF, f.R (k4 x (by omega)).1.1.1 (by omega)]
    exact (k5 x (by omega)).on f e (fun a j ha z => by rw [z.1, ownA] at ha; omega)
  · rw [eO]
    exact k6.on k1.2.2.2.2 f e (fun j z => by omega) (fun a j ha z => by rw [z.1, ownA] at ha; omega)
theorem c_works {h : Hp} {own : Nat → Nat} {s v : Nat} {u : Nat → Nat} {q : Shd} (k : shC h own s u v q) : f_X6_works (shA s) h = some (if shL q = -1 then 0 else 1, h) := by
  obtain ⟨⟨⟨o, -⟩, -⟩, ⟨-, e8, -⟩, -⟩ := k
  unfold f_X6_works
  rw [ck_yes o, e8]
  split <;> rfl
theorem c_most_go {h : Hp} {own : Nat → Nat} {s v : Nat} {u : Nat → Nat} {q : Shd} (k : shC h own s u v q) (hZ : shZ q ≤ 5) : ∀ (m r fuel : Nat), r + m = shZ q → m < fuel → f_X6_mostAreUp_4 fuel (shA s) (nI ((List.range r).filter (fun x => dkU (shD q x))).length) (nI r) h = some (if shMost q = true then 1 else 0, h)
  | m, r, 0, _, hf => absurd hf (Nat.not_lt_zero _)
  | 0, r, fuel + 1, hr, hf => by
    obtain ⟨⟨⟨o, -⟩, -⟩, ⟨e7, -⟩, -⟩ := k
    have er : r = shZ q := by omega
    have g2 : nI (shZ q) ≤ nI r := (zi_le (by omega) (by omega)).mpr (by omega)
    have lb : ((List.range (shZ q)).filter (fun x => dkU (shD q x))).length ≤ 5 := by
      have := List.length_filter_le (fun x => dkU (shD q x)) (List.range (shZ q))
      rw [List.length_range] at this
      omega
    unfold f_X6_mostAreUp_4
    rw [ck_yes o, e7, if_pos g2, er]
    have e2 : (2 : Int32) * nI ((List.range (shZ q)).filter (fun x => dkU (shD q x))).length = nI (2 * ((List.range (shZ q)).filter (fun x => dkU (shD q x))).length) := zi_mul 2 _
    rw [e2]
    by_cases c : shMost q = true
    · rw [if_pos c, if_neg (fun z => absurd ((zi_le (by omega) (by omega)).mp z) (by have := (shMost_iff q).mp c; omega))]
    · rw [if_neg c, if_pos ((zi_le (by omega) (by omega)).mpr (by
        have : ¬ shZ q < 2 * ((List.range (shZ q)).filter (fun x => dkU (shD q x))).length := fun z => c ((shMost_iff q).mpr z)
        omega))]
  | m + 1, r, fuel + 1, hr, hf => by
    obtain ⟨⟨⟨o, -, -, -, r703, -⟩, ⟨o1, l1, q1⟩, -⟩, ⟨e7, -⟩, k3, -⟩ := id k
    have g2 : ¬ nI (shZ q) ≤ nI r := zi_le0 (by omega) (by omega) (by omega)
    have nr : (nI r).toNatClampNeg = r := zi_nat (by omega)
    have gr : ¬ nI r < 0 := zi_neg (by omega)
    have lr : ¬ 5 ≤ r := by omega
    obtain ⟨B, ⟨y, -⟩, -⟩ := k3 r (by omega)
    have oD := y.1
    have e3 := y.2.2.2.2.1.1
    have qr := q1 r (by omega)
    have ih := c_most_go k hZ m (r + 1) fuel (by omega) (by omega)
    rw [List.range_succ, List.filter_append, List.length_append] at ih
    cases hu : dkU (shD q r) with
    | false =>
      rw [hu, if_neg (fun z => Bool.noConfusion z)] at e3
      have d := eq_true e3
      have z1 : ([r].filter (fun x => dkU (shD q x))).length = 0 := by rw [List.filter_cons, if_neg (by rw [hu]; exact fun z => Bool.noConfusion z)]; rfl
      rw [z1, Nat.add_zero] at ih
      rw [← ih]
      simp only [f_X6_mostAreUp_4, f_X6_mostAreUp_30, o10, o00, bh, isO, inR, ck_true, bind_some9, Nat.reduceLeDiff, Nat.reduceEqDiff, and_self, and_true, true_and, false_and, and_false, not_false_eq_true, not_true_eq_false, or_self, or_false, false_or, if_true, if_false, reduceIte, zR_pE, zT_pE, zL_pE, zn_pE, zE_pE, zI_pE, zQ_pE, zJ_pE, zR_pI, zT_pI, zL_pI, zn_pI, zE_pI, zI_pI, zQ_pI, zJ_pI, zR_pR, zT_pR, zL_pR, zn_pR, zE_pR, zI_pR, zQ_pR, zJ_pR, zR_pJ, zT_pJ, zL_pJ, zn_pJ, zE_pJ, zI_pJ, zQ_pJ, zJ_pJ, o, e7, g2, r703, o1, l1, nr, gr, lr, qr, oD, e3, zp0, zi_one]
    | true =>
      rw [hu, if_pos rfl] at e3
      have z1 : ([r].filter (fun x => dkU (shD q x))).length = 1 := by rw [List.filter_cons, if_pos hu]; rfl
      rw [z1] at ih
      rw [← ih]
      simp only [f_X6_mostAreUp_4, f_X6_mostAreUp_30, o10, o00, bh, isO, inR, ck_true, bind_some9, Nat.reduceLeDiff, Nat.reduceEqDiff, and_self, and_true, true_and, false_and, and_false, not_false_eq_true, not_true_eq_false, or_self, or_false, false_or, if_true, if_false, reduceIte, zR_pE, zT_pE, zL_pE, zn_pE, zE_pE, zI_pE, zQ_pE, zJ_pE, zR_pI, zT_pI, zL_pI, zn_pI, zE_pI, zI_pI, zQ_pI, zJ_pI, zR_pR, zT_pR, zL_pR, zn_pR, zE_pR, zI_pR, zQ_pR, zJ_pR, zR_pJ, zT_pJ, zL_pJ, zn_pJ, zE_pJ, zI_pJ, zQ_pJ, zJ_pJ, o, e7, g2, r703, o1, l1, nr, gr, lr, qr, oD, e3, zi_one]
theorem c_most {h : Hp} {own : Nat → Nat} {s v : Nat} {u : Nat → Nat} {q : Shd} (k : shC h own s u v q) (hZ : shZ q ≤ 5) : f_X6_mostAreUp (shA s) h = some (if shMost q = true then 1 else 0, h) := c_most_go k hZ (shZ q) 0 fz (by omega) (fz_big (by omega))
def lsF (F : Nat → Flw) (i : Nat) : Nat → Flw := fun n => if n < i then (flP (F n), flE (F n), flW (F n), tkFree (flT (F n))) else F n
theorem lsF_succ (F : Nat → Flw) (i : Nat) : upf (lsF F i) i (flP (F i), flE (F i), flW (F i), tkFree (flT (F i))) = lsF F (i + 1) := by
  funext n
  unfold upf lsF
  by_cases c : n = i
  · rw [if_pos c, if_pos (by omega), c]
  · rw [if_neg c]
    by_cases c2 : n < i
    · rw [if_pos c2, if_pos (by omega)]
    · rw [if_neg c2, if_neg (by omega)]
theorem c_lose_go {own : Nat → Nat} {s v : Nat} {u : Nat → Nat} {q : Shd} (w : owS own) (hs : s < 4) (hN : shN q ≤ 16) : ∀ (m i fuel : Nat) (h : Hp), shC h own s u v (shZ q, -1, shT q, shD q, shN q, lsF (shF q) i, shO q, shQ q) → i + m = shN q → m < fuel → ∃ h1, f_X6_loseLeader_7 fuel (shA s) (nI i) h = some h1 ∧ shC h1 own s u v (shLose q) ∧ cf (fun a j => ∃ n, n < 16 ∧ a = shA s + (18 + 8 * n) + 7 ∧ j = 904) h h1 ∧ nz h h1
  | m, i, 0, h, _, _, hf => absurd hf (Nat.not_lt_zero _)
  | 0, i, fuel + 1, h, k, hi, hf => by
    obtain ⟨⟨⟨o, -⟩, -⟩, ⟨-, -, -, e10, -⟩, -⟩ := id k
    have e10 : zI h 710 (shA s) = nI (shN q) := e10
    have g2 : nI (shN q) ≤ nI i := (zi_le (by omega) (by omega)).mpr (by omega)
    refine ⟨h, ?_, ?_, cf.rf h, rfl⟩
    · unfold f_X6_loseLeader_7
      rw [ck_yes o, e10, if_pos g2]
    · rw [show i = shN q by omega] at k
      exact k
  | m + 1, i, fuel + 1, h, k, hi, hf => by
    obtain ⟨⟨⟨o, -, -, -, -, r704, -⟩, -, ⟨o2, l2, q2⟩, -⟩, ⟨-, -, -, e10, -⟩, -, k4, k5, -⟩ := id k
    have e10 : zI h 710 (shA s) = nI (shN q) := e10
    have g2 : ¬ nI (shN q) ≤ nI i := zi_le0 (by omega) (by omega) (by omega)
    have ni : (nI i).toNatClampNeg = i := zi_nat (by omega)
    have gi : ¬ nI i < 0 := zi_neg (by omega)
    have li : ¬ 16 ≤ i := by omega
    have qi := q2 i (by omega)
    have wf := k4 i (by omega)
    have wf : wfC h (shA s + (18 + 8 * i)) (s + 4 * i) (lsF (shF q) i i) := wf
    have eFi : lsF (shF q) i i = shF q i := if_neg (by omega)
    rw [eFi] at wf
    obtain ⟨t, qh, qw, qk⟩ := id wf
    obtain ⟨⟨t1, t2, t3, t4, t5⟩, -, -, -, -, t9⟩ := id t
    have f1 : cf (fun a j => a = shA s + (18 + 8 * i) + 7 ∧ j = 904) h (pI h 904 (shA s + (18 + 8 * i) + 7) 0) := cf_pI ⟨rfl, rfl⟩
    have T1 := t.on f1 (fun j _ _ => by omega) (fun j _ _ => by omega)
    have k1 := k.row (n := i) (f9 := (flP (shF q i), flE (shF q i), flW (shF q i), tkFree (flT (shF q i)))) w hs (by omega) f1 (fun a j z => by omega) ⟨T1, qh.on t f1 (by omega) (fun a j _ _ => by omega), qw.on t f1 (fun j _ _ => by omega) (fun j => by omega), tk_free qk⟩ (fun hn => by
      have pr := k5.2 i (show i < shN q by omega)
      have pr : prC h own (zR h 1004 (shA s + (18 + 8 * i))) (flP (lsF (shF q) i i)) := pr
      rw [eFi] at pr
      rw [zR_pI]
      exact pr.on f1 (exO.rf own h) (fun a j ha z => by
        rw [z.1, show shA s + (18 + 8 * i) + 7 = shA s + (18 + 8 * i + 7) by omega, ow_at w hs (by omega) (by omega) (by omega)] at ha
        omega))
    have eq1 : shSetF ((shZ q, -1, shT q, shD q, shN q, lsF (shF q) i, shO q, shQ q) : Shd) i (flP (shF q i), flE (shF q i), flW (shF q i), tkFree (flT (shF q i))) = (shZ q, -1, shT q, shD q, shN q, lsF (shF q) (i + 1), shO q, shQ q) := by
      show (shZ q, -1, shT q, shD q, shN q, upf (lsF (shF q) i) i _, shO q, shQ q) = _
      rw [lsF_succ]
    rw [eq1] at k1
    obtain ⟨h1, x1, x2, x3, x4⟩ := c_lose_go w hs hN m (i + 1) fuel _ k1 (by omega) (by omega)
    refine ⟨h1, ?_, x2, (f1.mono (fun a j _ z => ⟨i, by omega, z.1, z.2⟩)).tr x3, x4⟩
    rw [← x1]
    simp only [f_X6_loseLeader_7, o10, o00, bh, isO, inR, ck_true, bind_some9, Nat.reduceLeDiff, Nat.reduceEqDiff, and_self, and_true, true_and, false_and, and_false, not_false_eq_true, not_true_eq_false, or_self, or_false, false_or, if_true, if_false, reduceIte, zR_pE, zT_pE, zL_pE, zn_pE, zE_pE, zI_pE, zQ_pE, zJ_pE, zR_pI, zT_pI, zL_pI, zn_pI, zE_pI, zI_pI, zQ_pI, zJ_pI, zR_pR, zT_pR, zL_pR, zn_pR, zE_pR, zI_pR, zQ_pR, zJ_pR, zR_pJ, zT_pJ, zL_pJ, zn_pJ, zE_pJ, zI_pJ, zQ_pJ, zJ_pJ, o, e10, g2, r704, o2, l2, ni, gi, li, qi, t1, t5, t9, zi_one]
theorem c_lose {h : Hp} {own : Nat → Nat} {s v : Nat} {u : Nat → Nat} {q : Shd} (k : shC h own s u v q) (w : owS own) (hs : s < 4) : ∃ h1, f_X6_loseLeader (shA s) h = some h1 ∧ shC h1 own s u v (shLose q) ∧ acC s h own u v h1 own u v := by
  obtain ⟨⟨⟨o, -⟩, -⟩, ⟨e7, e8, e9, e10, e11⟩, -, -, ⟨kN, -⟩, -⟩ := id k
  have f1 : cf (fun a j => a = shA s ∧ 707 ≤ j ∧ j ≤ 711) h (pI h 708 (shA s) (-1)) := cf_pI ⟨rfl, by omega, by omega⟩
  have k1 : shC (pI h 708 (shA s) (-1)) own s u v (shZ q, -1, shT q, shD q, shN q, lsF (shF q) 0, shO q, shQ q) := by
    refine k.sc w hs f1 ⟨?_, ?_, ?_, ?_, e11⟩ rfl ?_ rfl (Nat.le_refl _)
    · rw [zI_pI, if_neg (by omega)]; exact e7
    · rw [zI_pI, if_pos ⟨rfl, rfl⟩]
    · rw [zI_pI, if_neg (by omega)]; exact e9
    · rw [zI_pI, if_neg (by omega)]; exact e10
    · funext n
      show lsF (shF q) 0 n = shF q n
      exact if_neg (Nat.not_lt_zero n)
  obtain ⟨h1, x1, x2, x3, x4⟩ := c_lose_go w hs kN (shN q) 0 fz _ k1 (by omega) (fz_big (by omega))
  refine ⟨h1, ?_, x2, acC.nz ((f1.mono (fun a j _ z => by rw [z.1]; exact ow8 (o := 0) w hs (by omega) (by omega) (by omega))).tr (x3.mono (fun a j _ z => ?_))) x4⟩
  · unfold f_X6_loseLeader
    rw [ck_yes o]
    exact (congrArg (fun z => f_X6_loseLeader_7 fz (shA s) z (pI h 708 (shA s) (-1))) zi_zero).trans x1
  · obtain ⟨n, hn, z1, -⟩ := z
    rw [z1, show shA s + (18 + 8 * n) + 7 = shA s + (18 + 8 * n + 7) by omega]
    exact ow8 w hs (by omega) (by omega) (by omega)
/-! A RECORD IS TO BE DONE, IN THE CLASS -/
theorem shC.rec {h h1 : Hp} {own : Nat → Nat} {s v : Nat} {u : Nat → Nat} {q : Shd} (k : shC h own s u v q) (w : owS own) (hs : s < 4) (f : cf (fun a _ => a = shA s + 3) h h1) : shC h1 own s u v q := by
  obtain ⟨k1, k2, k3, k4, ⟨kN, k5⟩, k6⟩ := k
  have e : exO own own h := exO.rf own h
  have own3 : own (shA s + 3) = 10 * s + 8 := ow_at w hs (by omega) (by omega) (by omega)
  have nox : ∀ a, own a ≠ 10 * s + 8 → ¬ a = shA s + 3 := fun a h1 z => h1 (by rw [z]; exact own3)
  refine ⟨k1.on f (fun j _ _ => by omega) (fun a j ha => by omega), k2.on k1.1.1 f (fun j _ _ => by omega), fun x hx => (k3 x hx).on f e (fun j _ _ => by omega) (fun a j ha => nox a (by omega)), fun x hx => (k4 x hx).on f (fun a j h1 h2 _ => by omega), ⟨kN, fun x hx => ?_⟩, k6.on k1.2.2.2.2 f e (fun j => by omega) (fun a j ha => nox a (by omega))⟩
  rw [f.R (k4 x (by omega)).1.1.1 (by omega)]
  exact (k5 x hx).on f e (fun a j ha => nox a (by omega))
theorem sh_and {i : Nat} (hi : i < 4) : ((24 : Int32) - 8 * nI i) &&& 31 = nI (24 - 8 * i) := by
  have : i = 0 ∨ i = 1 ∨ i = 2 ∨ i = 3 := by omega
  rcases this with rfl | rfl | rfl | rfl <;> decide
theorem cRaw_w (r : Rec) {i : Nat} (hi : i < 4) : cRaw r (3 + i) = rcA r >>> nI (24 - 8 * i) ∧ cRaw r (7 + i) = rcB r >>> nI (24 - 8 * i) ∧ cRaw r (11 + i) = rcC r >>> nI (24 - 8 * i) := by
  have : i = 0 ∨ i = 1 ∨ i = 2 ∨ i = 3 := by omega
  rcases this with rfl | rfl | rfl | rfl <;> exact ⟨rfl, rfl, rfl⟩
theorem c_rec51 {s : Nat} {r : Rec} : ∀ (m i fuel : Nat) (h : Hp), isO h (shA s) 7 → zR h 705 (shA s) = shA s + 3 → isO h (shA s + 3) 20 → zL h (shA s + 3) = 16 → i + m = 4 → m < fuel → (∀ k, k < 3 → zE h (shA s + 3) k = cBt r k) → (∀ j, j < i → zE h (shA s + 3) (3 + j) = cBt r (3 + j) ∧ zE h (shA s + 3) (7 + j) = cBt r (7 + j) ∧ zE h (shA s + 3) (11 + j) = cBt r (11 + j)) →
    ∃ h1, f_X6_commit_51 fuel (shA s) (rcA r) (rcB r) (rcC r) (nI i) h = (if zI h1 708 (shA s) = -1 then f_X6_commit_140 0 (shA s) h1 else f_X6_commit_140 1 (shA s) h1) ∧ rwC h1 s r ∧ cf (fun a _ => a = shA s + 3) h h1 ∧ nz h h1
  | m, i, 0, h, _, _, _, _, _, hf, _, _ => absurd hf (Nat.not_lt_zero _)
  | 0, i, fuel + 1, h, o, r5, o3, l3, hi, hf, h1, h2 => by
    have c : (4 : Int32) ≤ nI i := (zi_le (a := 4) (by omega) (by omega)).mpr (by omega)
    have i15 : inR (15 : Int32) 16 := by decide
    refine ⟨pE h (shA s + 3) 15 ((1 : Int32).toInt8.toInt32), ?_, fun k hk => ?_, cf_pE (S := fun a _ => a = shA s + 3) rfl, rfl⟩
    · unfold f_X6_commit_51 bh
      rw [if_pos c, ck_yes o, r5, ck_yes o3, l3, ck_yes i15]
      rfl
    · rw [zE_pE]
      by_cases c15 : k = 15
      · rw [if_pos ⟨rfl, c15⟩, c15]; rfl
      · rw [if_neg (fun z => c15 z.2)]
        by_cases c3 : k < 3
        · exact h1 k c3
        · by_cases c7 : k < 7
          · have := (h2 (k - 3) (by omega)).1
            rw [show 3 + (k - 3) = k by omega] at this
            exact this
          · by_cases c11 : k < 11
            · have := (h2 (k - 7) (by omega)).2.1
              rw [show 7 + (k - 7) = k by omega] at this
              exact this
            · have := (h2 (k - 11) (by omega)).2.2
              rw [show 11 + (k - 11) = k by omega] at this
              exact this
  | m + 1, i, fuel + 1, h, o, r5, o3, l3, hi, hf, h1, h2 => by
    have c : ¬ (4 : Int32) ≤ nI i := zi_le0 (a := 4) (by omega) (by omega) (by omega)
    have e3 : (3 : Int32) + nI i = nI (3 + i) := zi_add 3 i
    have e7 : (7 : Int32) + nI i = nI (7 + i) := zi_add 7 i
    have e11 : (11 : Int32) + nI i = nI (11 + i) := zi_add 11 i
    have n3 : (nI (3 + i)).toNatClampNeg = 3 + i := zi_nat (by omega)
    have g3 : ¬ nI (3 + i) < 0 := zi_neg (by omega)
    have k3 : ¬ 16 ≤ 3 + i := by omega
    have n7 : (nI (7 + i)).toNatClampNeg = 7 + i := zi_nat (by omega)
    have g7 : ¬ nI (7 + i) < 0 := zi_neg (by omega)
    have k7 : ¬ 16 ≤ 7 + i := by omega
    have n11 : (nI (11 + i)).toNatClampNeg = 11 + i := zi_nat (by omega)
    have g11 : ¬ nI (11 + i) < 0 := zi_neg (by omega)
    have k11 : ¬ 16 ≤ 11 + i := by omega
    have sa := sh_and (by omega : i < 4)
    obtain ⟨w1, w2, w3⟩ := cRaw_w r (by omega : i < 4)
    have b1 : (rcA r >>> nI (24 - 8 * i)).toInt8.toInt32.toInt8.toInt32 = cBt r (3 + i) := by rw [i8_idem, ← w1]; rfl
    have b2 : (rcB r >>> nI (24 - 8 * i)).toInt8.toInt32.toInt8.toInt32 = cBt r (7 + i) := by rw [i8_idem, ← w2]; rfl
    have b3 : (rcC r >>> nI (24 - 8 * i)).toInt8.toInt32.toInt8.toInt32 = cBt r (11 + i) := by rw [i8_idem, ← w3]; rfl
    generalize hg : pE (pE (pE h (shA s + 3) (3 + i) (cBt r (3 + i))) (shA s + 3) (7 + i) (cBt r (7 + i))) (shA s + 3) (11 + i) (cBt r (11 + i)) = g
    have fg : cf (fun a _ => a = shA s + 3) h g := by
      rw [← hg]
      exact ((cf_pE (S := fun a _ => a = shA s + 3) rfl).tr (cf_pE (S := fun a _ => a = shA s + 3) rfl)).tr (cf_pE (S := fun a _ => a = shA s + 3) rfl)
    have vals : ∀ k, zE g (shA s + 3) k = if k = 11 + i then cBt r (11 + i) else if k = 7 + i then cBt r (7 + i) else if k = 3 + i then cBt r (3 + i) else zE h (shA s + 3) k := fun k => by
      rw [← hg, zE_pE, zE_pE, zE_pE]
      simp only [true_and]
    obtain ⟨g1, x1, x2, x3, x4⟩ := c_rec51 (r := r) m (i + 1) fuel g (by rw [← hg]; exact o) (by rw [← hg]; exact r5) (by rw [← hg]; exact o3) (by rw [← hg]; exact l3) (by omega) (by omega) (fun k hk => by rw [vals, if_neg (by omega), if_neg (by omega), if_neg (by omega)]; exact h1 k hk) (fun j hj => by
      by_cases cj : j = i
      · rw [cj]
        refine ⟨?_, ?_, ?_⟩
        · rw [vals, if_neg (by omega), if_neg (by omega), if_pos rfl]
        · rw [vals, if_neg (by omega), if_pos rfl]
        · rw [vals, if_pos rfl]
      · obtain ⟨y1, y2, y3⟩ := h2 j (by omega)
        refine ⟨?_, ?_, ?_⟩
        · rw [vals, if_neg (by omega), if_neg (by omega), if_neg (by omega)]; exact y1
        · rw [vals, if_neg (by omega), if_neg (by omega), if_neg (by omega)]; exact y2
        · rw [vals, if_neg (by omega), if_neg (by omega), if_neg (by omega)]; exact y3)
    have gnz : nz h g := by rw [← hg]; rfl
    refine ⟨g1, ?_, x2, fg.tr x3, gnz.tr x4⟩
    rw [← x1, ← hg]
    simp only [f_X6_commit_51, o10, o00, bh, isO, inR, ck_true, bind_some9, Nat.reduceLeDiff, Nat.reduceEqDiff, and_self, and_true, true_and, false_and, and_false, not_false_eq_true, not_true_eq_false, or_self, or_false, false_or, if_true, if_false, reduceIte, zR_pE, zT_pE, zL_pE, zn_pE, zE_pE, zI_pE, zQ_pE, zJ_pE, zR_pI, zT_pI, zL_pI, zn_pI, zE_pI, zI_pI, zQ_pI, zJ_pI, zR_pR, zT_pR, zL_pR, zn_pR, zE_pR, zI_pR, zQ_pR, zJ_pR, zR_pJ, zT_pJ, zL_pJ, zn_pJ, zE_pJ, zI_pJ, zQ_pJ, zJ_pJ, c, o, r5, o3, l3, e3, e7, e11, n3, g3, k3, n7, g7, k7, n11, g11, k11, sa, b1, b2, b3, zi_one]
theorem c_recs {h : Hp} {own : Nat → Nat} {s v : Nat} {u : Nat → Nat} {q : Shd} (k : shC h own s u v q) (w : owS own) (hs : s < 4) (kd n : Nat) (a b c : Int32) : ∃ h1, f_X6_commit (shA s) (nI kd) (nI n) a b c h = (if shL q = -1 then f_X6_commit_140 0 (shA s) h1 else f_X6_commit_140 1 (shA s) h1) ∧ rwC h1 s (n, kd, shT q, a, b, c) ∧ shC h1 own s u v (shTried q) ∧ acC s h own u v h1 own u v := by
  obtain ⟨⟨⟨o, -, -, -, -, -, r5, -⟩, -, -, ⟨o3, l3⟩, -⟩, ⟨e7, e8, e9, e10, e11⟩, -⟩ := id k
  have f1 : cf (fun a j => a = shA s ∧ 707 ≤ j ∧ j ≤ 711) h (pJ h 711 (shA s) (Int64.ofNat (shQ q + 1))) := cf_pJ ⟨rfl, by omega, by omega⟩
  have k1 : shC (pJ h 711 (shA s) (Int64.ofNat (shQ q + 1))) own s u v (shTried q) := k.sc w hs f1 ⟨e7, e8, e9, e10, by rw [zJ_pJ, if_pos ⟨rfl, rfl⟩]; rfl⟩ rfl rfl rfl (Nat.le_refl _)
  have b0 : (16 * nI n + nI kd).toInt8.toInt32.toInt8.toInt32 = cBt (n, kd, shT q, a, b, c) 0 := by
    rw [i8_idem, show (16 : Int32) = nI 16 from rfl, zi_mul, zi_add]; rfl
  have b1 : (nI (shT q) >>> ((8 : Int32) &&& 31)).toInt8.toInt32.toInt8.toInt32 = cBt (n, kd, shT q, a, b, c) 1 := by rw [i8_idem]; rfl
  have b2 : (nI (shT q)).toInt8.toInt32.toInt8.toInt32 = cBt (n, kd, shT q, a, b, c) 2 := by rw [i8_idem]; rfl
  generalize hr : ((n, kd, shT q, a, b, c) : Rec) = r at *
  have ra : rcA r = a := by rw [← hr]
  have rb : rcB r = b := by rw [← hr]
  have rc : rcC r = c := by rw [← hr]
  generalize hg0 : pJ h 711 (shA s) (Int64.ofNat (shQ q + 1)) = g0 at *
  have o' : isO g0 (shA s) 7 := by rw [← hg0]; exact o
  have r5' : zR g0 705 (shA s) = shA s + 3 := by rw [← hg0]; exact r5
  have o3' : isO g0 (shA s + 3) 20 := by rw [← hg0]; exact o3
  have l3' : zL g0 (shA s + 3) = 16 := by rw [← hg0]; exact l3
  have e9' : zI g0 709 (shA s) = nI (shT q) := by rw [← hg0]; exact e9
  generalize hg : pE (pE (pE g0 (shA s + 3) 0 (cBt r 0)) (shA s + 3) 1 (cBt r 1)) (shA s + 3) 2 (cBt r 2) = g
  have fg : cf (fun a _ => a = shA s + 3) g0 g := by
    rw [← hg]
    exact ((cf_pE (S := fun a _ => a = shA s + 3) rfl).tr (cf_pE (S := fun a _ => a = shA s + 3) rfl)).tr (cf_pE (S := fun a _ => a = shA s + 3) rfl)
  obtain ⟨h1, x1, x2, x3, x4⟩ := c_rec51 (s := s) (r := r) 4 0 fz g (by rw [← hg]; exact o') (by rw [← hg]; exact r5') (by rw [← hg]; exact o3') (by rw [← hg]; exact l3') (by omega) (fz_big (by omega)) (fun k hk => by
    rw [← hg, zE_pE, zE_pE, zE_pE]
    have : k = 0 ∨ k = 1 ∨ k = 2 := by omega
    rcases this with rfl | rfl | rfl
    · rw [if_neg (by omega), if_neg (by omega), if_pos ⟨rfl, rfl⟩]
    · rw [if_neg (by omega), if_pos ⟨rfl, rfl⟩]
    · rw [if_pos ⟨rfl, rfl⟩]) (fun j hj => absurd hj (Nat.not_lt_zero _))
  have k2 := k1.rec w hs (fg.tr x3)
  have g8 : zI h1 708 (shA s) = shL q := k2.2.1.2.1
  rw [g8] at x1
  have gnz : nz h g := by rw [← hg, ← hg0]; rfl
  refine ⟨h1, ?_, x2, k2, acC.nz ((f1.mono (fun a j _ z => by rw [z.1]; exact ow8 (o := 0) w hs (by omega) (by omega) (by omega))).tr ((fg.tr x3).mono (fun a j _ z => by rw [z]; exact ow8 w hs (by omega) (by omega) (by omega)))) (gnz.tr x4)⟩
  rw [← x1, ra, rb, rc, ← hg, ← hg0]
  have n0 : (0 : Int32).toNatClampNeg = 0 := rfl
  have g0' : ¬ (0 : Int32) < 0 := by decide
  have n1 : (1 : Int32).toNatClampNeg = 1 := rfl
  have g1' : ¬ (1 : Int32) < 0 := by decide
  have n2 : (2 : Int32).toNatClampNeg = 2 := rfl
  have g2' : ¬ (2 : Int32) < 0 := by decide
  have l0 : ¬ 16 ≤ 0 := by omega
  have l1 : ¬ 16 ≤ 1 := by omega
  have l2 : ¬ 16 ≤ 2 := by omega
  have eJ : Int64.ofNat (shQ q) + 1 = Int64.ofNat (shQ q + 1) := (Int64.ofNat_add (shQ q) 1).symm
  have z0 : f_X6_commit_51 fz (shA s) a b c (nI 0) (pE (pE (pE (pJ h 711 (shA s) (Int64.ofNat (shQ q + 1))) (shA s + 3) 0 (cBt r 0)) (shA s + 3) 1 (cBt r 1)) (shA s + 3) 2 (cBt r 2)) = f_X6_commit_51 fz (shA s) a b c 0 (pE (pE (pE (pJ h 711 (shA s) (Int64.ofNat (shQ q + 1))) (shA s + 3) 0 (cBt r 0)) (shA s + 3) 1 (cBt r 1)) (shA s + 3) 2 (cBt r 2)) := congrArg (fun z => f_X6_commit_51 fz (shA s) a b c z _) zi_zero.symm
  rw [z0]
  simp only [f_X6_commit, o10, o00, bh, isO, inR, ck_true, bind_some9, Nat.reduceLeDiff, Nat.reduceEqDiff, and_self, and_true, true_and, false_and, and_false, not_false_eq_true, not_true_eq_false, or_self, or_false, false_or, if_true, if_false, reduceIte, zR_pE, zT_pE, zL_pE, zn_pE, zE_pE, zI_pE, zQ_pE, zJ_pE, zR_pI, zT_pI, zL_pI, zn_pI, zE_pI, zI_pI, zQ_pI, zJ_pI, zR_pR, zT_pR, zL_pR, zn_pR, zE_pR, zI_pR, zQ_pR, zJ_pR, zR_pJ, zT_pJ, zL_pJ, zn_pJ, zE_pJ, zI_pJ, zQ_pJ, zJ_pJ, o, r5, o3, l3, e9, e11, eJ, n0, g0', n1, g1', n2, g2', l0, l1, l2, b0, b1, b2]
def spF (D : Nat → Dk) (l : Nat) (rc : Rec) (r : Nat) : Nat → Dk := fun x => if x < r ∧ x ≠ l then dkWrite (D x) rc else D x
theorem spF_same (D : Nat → Dk) (rc : Rec) (r : Nat) : spF D r rc (r + 1) = spF D r rc r := by
  funext x
  unfold spF
  by_cases c : x < r ∧ x ≠ r
  · rw [if_pos ⟨by omega, c.2⟩, if_pos c]
  · rw [if_neg (by omega), if_neg c]
theorem spF_succ (D : Nat → Dk) {l : Nat} (rc : Rec) {r : Nat} (h : r ≠ l) : upf (spF D l rc r) r (dkWrite (spF D l rc r r) rc) = spF D l rc (r + 1) := by
  have e : spF D l rc r r = D r := if_neg (by omega)
  rw [e]
  funext x
  unfold upf spF
  by_cases c : x = r
  · rw [if_pos c, if_pos ⟨by omega, by rw [c]; exact h⟩, c]
  · rw [if_neg c]
    by_cases c2 : x < r ∧ x ≠ l
    · rw [if_pos c2, if_pos ⟨by omega, c2.2⟩]
    · rw [if_neg c2, if_neg (by omega)]
theorem acC.z {s : Nat} {h h1 : Hp} {own u own1 u1 : Nat → Nat} {v v1 : Nat} (p : acC s h own u v h1 own1 u1 v1) (w : owS own) (hz : 672 ≤ zn h) : owS own1 ∧ 672 ≤ zn h1 := ⟨w.on p.1 hz, Nat.le_trans hz p.2.1.1⟩
theorem acC.cx {s : Nat} {h h1 : Hp} {own u own1 u1 : Nat → Nat} {v v1 : Nat} {vs : Nat → List Prg} {now : Int32} (p : acC s h own u v h1 own1 u1 v1) (hs : s < 4) (c : cxC h own vs now) : cxC h1 own1 vs now := c.on p.2.1 p.1 (fun a j ha z => by
  rcases ha with ha | ha
  · rw [ha] at z; omega
  · exact ow_lo c.1 ha hs z)
theorem c_183 {s v : Nat} {q : Shd} {rc : Rec} {D : Nat → Dk} {l : Nat} (hs : s < 4) (hZ : shZ q ≤ 5) (hlZ : l < shZ q) (hL : shL q = nI l) (hm : rcM rc) (ok : ∀ x, x < shZ q → dkOK (D x) ∧ (dkL (D x)).length ≤ 3922) : ∀ (m r fuel : Nat) (h : Hp) (own u : Nat → Nat), owS own → 672 ≤ zn h → shC h own s u v (shSetD q (spF D l rc r)) → rwC h s rc → r + m = shZ q → m < fuel → ∃ x h1 own1 u1, f_X6_commit_183 fuel (shA s) 1 (nI r) h = some (x, h1) ∧ x = (if shMost (shSetD q (spF D l rc (shZ q))) = true then 1 else 0) ∧ shC h1 own1 s u1 v (if shMost (shSetD q (spF D l rc (shZ q))) = true then shSetD q (spF D l rc (shZ q)) else shLose (shSetD q (spF D l rc (shZ q)))) ∧ acC s h own u v h1 own1 u1 v
  | m, r, 0, h, own, u, _, _, _, _, _, hf => absurd hf (Nat.not_lt_zero _)
  | 0, r, fuel + 1, h, own, u, w, hz, k, row, hr, hf => by
    have er : r = shZ q := by omega
    rw [er] at k
    obtain ⟨⟨⟨o, -⟩, -⟩, ⟨e7, -⟩, -⟩ := id k
    have e7 : zI h 707 (shA s) = nI (shZ q) := e7
    have g2 : nI (shZ q) ≤ nI r := (zi_le (by omega) (by omega)).mpr (by omega)
    have mo := c_most k hZ
    have red : f_X6_commit_183 (fuel + 1) (shA s) 1 (nI r) h = (f_X6_mostAreUp (shA s) h).bind (fun q45 => if q45.1 = 0 then ck (isO q45.2 (shA s) 7) ((f_X6_loseLeader (shA s) q45.2).bind (fun q47 => some (0, q47))) else some (1, q45.2)) := by
      conv => lhs; unfold f_X6_commit_183
      rw [ck_yes o, e7, if_pos g2, if_neg (show ¬ (1 : Int32) = 0 by decide)]
    rw [red, mo]
    by_cases c : shMost (shSetD q (spF D l rc (shZ q))) = true
    · rw [if_pos c, if_pos c]
      exact ⟨1, h, own, u, rfl, rfl, k, acC.rf s h own u v⟩
    · rw [if_neg c, if_neg c]
      obtain ⟨h1, x1, x2, x3⟩ := c_lose k w hs
      refine ⟨0, h1, own, u, ?_, rfl, x2, x3⟩
      show (if (0 : Int32) = 0 then ck (isO h (shA s) 7) ((f_X6_loseLeader (shA s) h).bind (fun q47 => some (0, q47))) else some (1, h)) = _
      rw [if_pos rfl, ck_yes o, x1]
      rfl
  | m + 1, r, fuel + 1, h, own, u, w, hz, k, row, hr, hf => by
    obtain ⟨⟨⟨o, -, -, -, r703, -, r705, -⟩, ⟨o1, l1, q1⟩, -⟩, ⟨e7, e8, -⟩, k3, -⟩ := id k
    have e7 : zI h 707 (shA s) = nI (shZ q) := e7
    have e8 : zI h 708 (shA s) = nI l := e8.trans hL
    have g2 : ¬ nI (shZ q) ≤ nI r := zi_le0 (by omega) (by omega) (by omega)
    have nr : (nI r).toNatClampNeg = r := zi_nat (by omega)
    have gr : ¬ nI r < 0 := zi_neg (by omega)
    have lr : ¬ 5 ≤ r := by omega
    have qr := q1 r (by omega)
    have ql : nI r = nI l ↔ r = l := zi_eq (by omega) (by omega)
    by_cases cl : r = l
    · have d := eq_true (ql.mpr cl)
      have k2 := k
      rw [← cl] at k2 hlZ hL ⊢
      rw [← spF_same] at k2
      obtain ⟨x, h1, own1, u1, x1, x2, x3, x4⟩ := c_183 hs hZ hlZ hL hm ok m (r + 1) fuel h own u w hz k2 row (by omega) (by omega)
      refine ⟨x, h1, own1, u1, ?_, x2, x3, x4⟩
      rw [← x1]
      have e8' : zI h 708 (shA s) = nI r := by rw [cl]; exact e8
      simp only [f_X6_commit_183, f_X6_commit_223, o10, o00, bh, isO, inR, ck_true, bind_some9, Nat.reduceLeDiff, Nat.reduceEqDiff, and_self, and_true, true_and, false_and, and_false, not_false_eq_true, not_true_eq_false, or_self, or_false, false_or, if_true, if_false, reduceIte, zR_pE, zT_pE, zL_pE, zn_pE, zE_pE, zI_pE, zQ_pE, zJ_pE, zR_pI, zT_pI, zL_pI, zn_pI, zE_pI, zI_pI, zQ_pI, zJ_pI, zR_pR, zT_pR, zL_pR, zn_pR, zE_pR, zI_pR, zQ_pR, zJ_pR, zR_pJ, zT_pJ, zL_pJ, zn_pJ, zE_pJ, zI_pJ, zQ_pJ, zJ_pJ, o, e7, g2, e8', zi_one]
    · have d := eq_false (fun z => cl (ql.mp z))
      have er : spF D l rc r r = D r := if_neg (by omega)
      obtain ⟨B, ⟨y, -⟩, -⟩ := k3 r (by omega)
      have oD := y.1
      obtain ⟨h1, own1, ur, a1, a2, a3, a4⟩ := c_diskW (r := r) (rc := rc) k w hs (by omega) row hm (by show dkOK (spF D l rc r r); rw [er]; exact (ok r (by omega)).1) (by show (dkL (spF D l rc r r)).length ≤ 3922; rw [er]; exact (ok r (by omega)).2)
      have a2 : shC h1 own1 s (upf u r ur) v (shSetD q (upf (spF D l rc r) r (dkWrite (spF D l rc r r) rc))) := a2
      rw [spF_succ D rc cl] at a2
      obtain ⟨w1, hz1⟩ := a3.z w hz
      obtain ⟨x, h2, own2, u2, x1, x2, x3, x4⟩ := c_183 hs hZ hlZ hL hm ok m (r + 1) fuel h1 own1 _ w1 hz1 a2 a4 (by omega) (by omega)
      refine ⟨x, h2, own2, u2, ?_, x2, x3, a3.tr x4⟩
      rw [← x1]
      simp only [f_X6_commit_183, f_X6_commit_223, o10, o00, bh, isO, inR, ck_true, bind_some9, Nat.reduceLeDiff, Nat.reduceEqDiff, and_self, and_true, true_and, false_and, and_false, not_false_eq_true, not_true_eq_false, or_self, or_false, false_or, if_true, if_false, reduceIte, zR_pE, zT_pE, zL_pE, zn_pE, zE_pE, zI_pE, zQ_pE, zJ_pE, zR_pI, zT_pI, zL_pI, zn_pI, zE_pI, zI_pI, zQ_pI, zJ_pI, zR_pR, zT_pR, zL_pR, zn_pR, zE_pR, zI_pR, zQ_pR, zJ_pR, zR_pJ, zT_pJ, zL_pJ, zn_pJ, zE_pJ, zI_pJ, zQ_pJ, zJ_pJ, o, e7, g2, e8, d, r703, r705, o1, l1, nr, gr, lr, qr, oD, a1, zi_one]
theorem c_commit {h : Hp} {own : Nat → Nat} {s v : Nat} {u : Nat → Nat} {q : Shd} (k : shC h own s u v q) (w : owS own) (hz : 672 ≤ zn h) (hs : s < 4) (hZ : shZ q ≤ 5) (hL : shL q = -1 ∨ ∃ l, l < shZ q ∧ shL q = nI l) (hT : shT q < 65536) (ok : ∀ x, x < shZ q → dkOK (shD q x) ∧ (dkL (shD q x)).length ≤ 3920) {kd n : Nat} (hk : kd < 16) (hn : n < 16) (a b c : Int32) : ∃ x h1 own1 u1, f_X6_commit (shA s) (nI kd) (nI n) a b c h = some (x, h1) ∧ x = (if (shCommit q kd n a b c).1 = true then 1 else 0) ∧ shC h1 own1 s u1 v (shCommit q kd n a b c).2 ∧ acC s h own u v h1 own1 u1 v := by
  obtain ⟨h1, x1, x2, x3, x4⟩ := c_recs k w hs kd n a b c
  rw [x1]
  obtain ⟨⟨⟨o, -, -, -, r703, -, r705, -⟩, ⟨o1, l1, q1⟩, -⟩, ⟨e7, e8, -⟩, k3, -⟩ := id x3
  have e7 : zI h1 707 (shA s) = nI (shZ q) := e7
  have e8 : zI h1 708 (shA s) = shL q := e8
  by_cases cl : shL q = -1
  · rw [if_pos cl]
    have eC : shCommit q kd n a b c = (false, shLose (shTried q)) := by
      unfold shCommit
      simp only []
      exact if_pos cl
    rw [eC]
    obtain ⟨h2, y1, y2, y3⟩ := c_lose x3 w hs
    refine ⟨0, h2, own, u, ?_, rfl, y2, x4.tr y3⟩
    obtain ⟨f, hf⟩ : ∃ f, fz = f + 1 := ⟨999999, rfl⟩
    unfold f_X6_commit_140 f_X6_commit_180
    rw [if_pos rfl, hf]
    unfold f_X6_commit_183
    rw [ck_yes o, if_pos rfl, y1]
    split
    · rfl
    · rfl
  · rw [if_neg cl]
    obtain ⟨l, hlZ, hlL⟩ := hL.resolve_left cl
    generalize hrc : ((n, kd, shT q, a, b, c) : Rec) = rc at *
    have hm : rcM rc := by rw [← hrc]; exact ⟨hn, hk, hT⟩
    have nl : (nI l).toNatClampNeg = l := zi_nat (by omega)
    have gl : ¬ nI l < 0 := zi_neg (by omega)
    have ll : ¬ 5 ≤ l := by omega
    obtain ⟨B, ⟨y, -⟩, -⟩ := k3 l (by omega)
    have oD := y.1
    obtain ⟨h2, own2, ur, a1, a2, a3, a4⟩ := c_diskW (r := l) (rc := rc) x3 w hs (by omega) x2 hm (ok l hlZ).1 (by have := (ok l hlZ).2; show (dkL (shD q l)).length ≤ 3922; omega)
    have ql := q1 l (by omega)
    obtain ⟨w2, hz2⟩ := (x4.tr a3).z w hz
    generalize hD : upf (shD q) l (dkWrite (shD q l) rc) = D at *
    have a2 : shC h2 own2 s (upf u l ur) v (shSetD (shTried q) D) := by rw [← hD]; exact a2
    obtain ⟨⟨⟨o', -, -, -, r703', -⟩, ⟨o1', l1', q1'⟩, -⟩, ⟨-, e8', -⟩, k3', -⟩ := id a2
    have e8' : zI h2 708 (shA s) = nI l := e8'.trans hlL
    have ql' := q1' l (by omega)
    obtain ⟨B', ⟨y', -⟩, -⟩ := k3' l (by omega)
    have oD' := y'.1
    have e3' : zI h2 603 (shA s + (8 + 2 * l)) = if dkU (D l) = true then 1 else 0 := y'.2.2.2.2.1.1
    have e8l : zI h1 708 (shA s) = nI l := e8.trans hlL
    have eD : D l = dkWrite (shD q l) rc := by rw [← hD]; exact if_pos rfl
    have eC : shCommit q kd n a b c = (if dkU (D l) = false then (false, shLose (shSetD (shTried q) D)) else if shMost (shSetD (shTried q) (spF D l rc (shZ q))) = true then (true, shSetD (shTried q) (spF D l rc (shZ q))) else (false, shLose (shSetD (shTried q) (spF D l rc (shZ q))))) := by
      unfold shCommit
      simp only []
      have nl2 : (shL (shTried q)).toNatClampNeg = l := by show (shL q).toNatClampNeg = l; rw [hlL]; exact nl
      rw [if_neg (show ¬ shL (shTried q) = -1 from cl), nl2]
      have hrc2 : ((n, kd, shT (shTried q), a, b, c) : Rec) = rc := hrc
      rw [hrc2]
      have hD2 : upf (shD (shTried q)) l (dkWrite (shD (shTried q) l) rc) = D := hD
      rw [hD2]
      rfl
    have red : f_X6_commit_140 1 (shA s) h1 = f_X6_commit_180 (shA s) (if dkU (D l) = true then 1 else 0) h2 := by
      simp only [f_X6_commit_140, o10, o00, bh, isO, inR, ck_true, bind_some9, Nat.reduceLeDiff, Nat.reduceEqDiff, and_self, and_true, true_and, false_and, and_false, not_false_eq_true, not_true_eq_false, or_self, or_false, false_or, if_true, if_false, reduceIte, zR_pE, zT_pE, zL_pE, zn_pE, zE_pE, zI_pE, zQ_pE, zJ_pE, zR_pI, zT_pI, zL_pI, zn_pI, zE_pI, zI_pI, zQ_pI, zJ_pI, zR_pR, zT_pR, zL_pR, zn_pR, zE_pR, zI_pR, zQ_pR, zJ_pR, zR_pJ, zT_pJ, zL_pJ, zn_pJ, zE_pJ, zI_pJ, zQ_pJ, zJ_pJ, o, r703, r705, o1, l1, e8l, nl, gl, ll, ql, oD, a1, o', r703', o1', l1', e8', ql', oD', e3']
    rw [red, eC]
    cases hu : dkU (D l) with
    | false =>
      rw [show (if false = true then (1 : Int32) else 0) = 0 from rfl, if_pos (show false = false from rfl)]
      obtain ⟨h3, y1, y2, y3⟩ := c_lose a2 w2 hs
      refine ⟨0, h3, own2, _, ?_, rfl, y2, (x4.tr a3).tr y3⟩
      obtain ⟨f, hf⟩ : ∃ f, fz = f + 1 := ⟨999999, rfl⟩
      unfold f_X6_commit_180
      rw [hf]
      unfold f_X6_commit_183
      rw [ck_yes o', if_pos rfl, y1]
      split
      · rfl
      · rfl
    | true =>
      rw [show (if true = true then (1 : Int32) else 0) = 1 from rfl, if_neg (show ¬ (true = false) from fun z => by cases z)]
      have k0 : shC h2 own2 s (upf u l ur) v (shSetD (shTried q) (spF D l rc 0)) := by
        have : spF D l rc 0 = D := by
          funext x
          exact if_neg (fun z => absurd z.1 (Nat.not_lt_zero x))
        rw [this]; exact a2
      obtain ⟨x, h3, own3, u3, z1, z2, z3, z4⟩ := c_183 (q := shTried q) (D := D) (l := l) hs hZ hlZ hlL hm (fun x hx => by
        rw [← hD]
        by_cases c : x = l
        · rw [show upf (shD q) l (dkWrite (shD q l) rc) x = dkWrite (shD q l) rc from if_pos c]
          refine ⟨dkOK_write rc (ok l hlZ).1, ?_⟩
          have := (ok l hlZ).2
          unfold dkWrite
          split
          · omega
          · split
            · show (dkL (shD q l)).length ≤ _
              omega
            · show (dkL (shD q l) ++ [rc]).length ≤ _
              rw [List.length_append, List.length_singleton]
              omega
        · rw [show upf (shD q) l (dkWrite (shD q l) rc) x = shD q x from if_neg c]
          exact ⟨(ok x hx).1, Nat.le_trans (ok x hx).2 (by omega)⟩) (shZ q) 0 fz h2 own2 _ w2 hz2 k0 a4 (by show 0 + shZ q = shZ q; omega) (fz_big (by omega))
      refine ⟨x, h3, own3, u3, ?_, ?_, ?_, (x4.tr a3).tr z4⟩
      · unfold f_X6_commit_180
        exact (congrArg (fun z => f_X6_commit_183 fz (shA s) 1 z h2) zi_zero).trans z1
      · rw [z2]
        show (if shMost (shSetD (shTried q) (spF D l rc (shZ q))) = true then 1 else 0) = _
        split <;> rfl
      · show shC h3 own3 s u3 v (if shMost (shSetD (shTried q) (spF D l rc (shZ q))) = true then (true, shSetD (shTried q) (spF D l rc (shZ q))) else (false, shLose (shSetD (shTried q) (spF D l rc (shZ q))))).2
        have z3 : shC h3 own3 s u3 v (if shMost (shSetD (shTried q) (spF D l rc (shZ q))) = true then shSetD (shTried q) (spF D l rc (shZ q)) else shLose (shSetD (shTried q) (spF D l rc (shZ q)))) := z3
        split at z3
        · next c => rw [if_pos c]; exact z3
        · next c => rw [if_neg c]; exact z3
/-! EVENTS, IN THE CLASS -/
def wfA (s n : Nat) : Nat := shA s + (18 + 8 * n)
theorem cm_ok {vs : Nat → List Prg} {q : Shd} {C : List Rec} {K : Nat} (hI : ShI vs q C) (hY : shY q ≤ lgW C + K) (hK : K ≤ 2000) : shZ q ≤ 5 ∧ (shL q = -1 ∨ ∃ l, l < shZ q ∧ shL q = nI l) ∧ shT q < 65536 ∧ (∀ x, x < shZ q → dkOK (shD q x) ∧ (dkL (shD q x)).length ≤ 3920) ∧ shQ q ≤ 3920 ∧ shN q ≤ 16 := by
  have hQ := q_bound hI hY hK
  refine ⟨hI.1.1, ?_, by have := hI.2.2.1.2.2; omega, fun x hx => ⟨(hI.2.2.1.2.1 x hx).2.1, Nat.le_trans (hI.2.2.1.2.1 x hx).1 hQ⟩, hQ, N16 hI⟩
  by_cases hl : shL q = -1
  · exact Or.inl hl
  · obtain ⟨l, w, -⟩ := hI.w hl
    exact Or.inr ⟨l, w.1, w.2.1⟩
theorem row_ok {vs : Nat → List Prg} {q : Shd} {C : List Rec} (hv : vsOK vs) (hI : ShI vs q C) {n : Nat} (hn : n < shN q) : prgOK (flP (shF q n)) ∧ 0 < (flE (shF q n)).length ∧ (flE (shF q n)).length ≤ 60 ∧ kOK (flE (shF q n)) ∧ wkG (flP (shF q n)) (flE (shF q n)) (flW (shF q n)) ∧ wkG (flP (shF q n)) (flE (shF q n)) (rpA (flP (shF q n)) (flE (shF q n))) := by
  obtain ⟨l1, l2, l3, l4, l5⟩ := hI.len hn
  obtain ⟨s1, s2, s3⟩ := hI.2.1
  have hz := s3 n (by omega)
  have hP : prgOK (flP (shF q n)) := (hv _ (Nat.mod_lt _ (by decide))).2 _ (prgOf_mem hz.2.1)
  obtain ⟨g1, g2⟩ := wkG_all hP l4 (flE (shF q n)).length l1 (Nat.le_refl _)
  unfold hA at g1
  unfold hR at g2
  rw [List.take_length] at g1 g2
  refine ⟨hP, l1, l2, fun e he => ?_, by rw [l5]; exact g2, g1⟩
  obtain ⟨k, hk⟩ := List.getElem?_of_mem he
  have hkl := (List.getElem?_eq_some_iff.mp hk).1
  have ee : evAt (flE (shF q n)) k = e := Option.some.inj ((ev_get hkl).symm.trans hk)
  rw [← ee]
  rcases Nat.eq_zero_or_pos k with z | z
  · rw [z, l4.2.2.1]; omega
  · have := (l4.2.2.2 k z hkl).2.1
    omega
/-- the program of a row -/
theorem pg_of {h : Hp} {own : Nat → Nat} {s n : Nat} {P : Prg} (w : owS own) (hs : s < 4) (hn : n < 16) (p : prC h own (zR h 1004 (wfA s n)) P) : pgC h (wfA s n) P ∧ ∀ x, (zR h 1004 (wfA s n) = x ∨ zR h 501 (zR h 1004 (wfA s n)) = x) → ¬ (wfA s n ≤ x ∧ x ≤ wfA s n + 7) := by
  obtain ⟨⟨a1, a2, a3⟩, c, ⟨b1, b2, b3, b4⟩, d⟩ := p
  have far : ∀ x, own x = 102 → ¬ (wfA s n ≤ x ∧ x ≤ wfA s n + 7) := fun x hx z => by
    unfold wfA at z
    have e : x = shA s + (x - shA s) := by omega
    rw [e, ow_at w hs (by omega) (by omega) (by omega)] at hx
    omega
  have f1 := far _ a2
  have f2 := far _ b3
  refine ⟨⟨zR h 1004 (wfA s n), c, ⟨rfl, a1, a3⟩, ⟨b1, b2, b4⟩, ⟨by omega, by omega, by omega, by omega⟩, d⟩, fun x hx => ?_⟩
  rcases hx with hx | hx
  · rw [← hx]; exact f1
  · rw [← hx, b1]; exact f2
theorem c_records {h : Hp} {own : Nat → Nat} {s v : Nat} {u : Nat → Nat} {q : Shd} (k : shC h own s u v q) {l : Nat} (hl : shL q = nI l) (hlZ : l < 5) (hlen : (dkL (shD q l)).length ≤ 10000) : f_X6_records (shA s) h = some (nI (shRecs q), h) := by
  obtain ⟨⟨⟨o, -, -, -, r703, -⟩, ⟨o1, l1, q1⟩, -⟩, ⟨-, e8, -⟩, k3, -⟩ := id k
  rw [hl] at e8
  have nl : (nI l).toNatClampNeg = l := zi_nat (by omega)
  have gl : ¬ nI l < 0 := zi_neg (by omega)
  have ll : ¬ 5 ≤ l := by omega
  have ql := q1 l hlZ
  obtain ⟨B, ⟨y, hT⟩, -⟩ := k3 l hlZ
  have oD := y.1
  have e2 := y.2.2.2.1.1
  have dm : (nI l = -1) = False := eq_false (zi_ne1 (by omega))
  have ed : nI (dkSz (shD q l)) / (16 : Int32) = nI (dkL (shD q l)).length := by
    have : nI (dkSz (shD q l)) / nI 16 = nI (dkSz (shD q l) / 16) := zi_div (by unfold dkSz; omega) (by omega) (by omega)
    rw [show (16 : Int32) = nI 16 from rfl, this]
    congr 1
    unfold dkSz
    omega
  have er : shRecs q = (dkL (shD q l)).length := by
    unfold shRecs shLog
    rw [hl, if_neg (zi_ne1 (by omega)), nl]
  rw [er, ← ed]
  simp only [f_X6_records, o10, o00, bh, isO, inR, ck_true, bind_some9, Nat.reduceLeDiff, Nat.reduceEqDiff, and_self, and_true, true_and, false_and, and_false, not_false_eq_true, not_true_eq_false, or_self, or_false, false_or, if_true, if_false, reduceIte, zR_pE, zT_pE, zL_pE, zn_pE, zE_pE, zI_pE, zQ_pE, zJ_pE, zR_pI, zT_pI, zL_pI, zn_pI, zE_pI, zI_pI, zQ_pI, zJ_pI, zR_pR, zT_pR, zL_pR, zn_pR, zE_pR, zI_pR, zQ_pR, zJ_pR, zR_pJ, zT_pJ, zL_pJ, zn_pJ, zE_pJ, zI_pJ, zQ_pJ, zJ_pJ, o, e8, dm, r703, o1, l1, nl, gl, ll, ql, oD, e2]
theorem obC.R {h : Hp} {own : Nat → Nat} {s v : Nat} {O : List (Nat × Nat × Nat)} (w : owS own) (hs : s < 4) (o4 : isO h (shA s + 4) 3) (q : obC h own s v O) : ∃ a b c, obR h (shA s + 4) a b c (16 * v) O ∧ (own a = 10 * s + 5 ∧ own b = 10 * s + 6 ∧ own c = 10 * s + 7) ∧ 1 ≤ v ∧ v ≤ 200 ∧ O.length ≤ 16 * v := by
  obtain ⟨a, b, c, r, b1, ow, ⟨d1, d2, d3, d4, d5⟩, ⟨e1, e2⟩, g⟩ := q
  have own4 : own (shA s + 4) = 10 * s + 8 := ow_at w hs (by omega) (by omega) (by omega)
  refine ⟨a, b, c, ⟨⟨o4, r⟩, b1, ⟨?_, ?_, ?_, ?_, ?_, ?_⟩, ⟨d1, d2, d3⟩, e1, g⟩, ow, d4, d5, e2⟩
  · intro z; have := ow.1; rw [z, ow.2.1] at this; omega
  · intro z; have := ow.1; rw [z, ow.2.2] at this; omega
  · intro z; have := ow.2.1; rw [z, ow.2.2] at this; omega
  · intro z; have := ow.1; rw [z, own4] at this; omega
  · intro z; have := ow.2.1; rw [z, own4] at this; omega
  · intro z; have := ow.2.2; rw [z, own4] at this; omega
theorem obC_of {h : Hp} {own : Nat → Nat} {s v a b c : Nat} {O : List (Nat × Nat × Nat)} (q : obR h (shA s + 4) a b c (16 * v) O) (ow : own a = 10 * s + 5 ∧ own b = 10 * s + 6 ∧ own c = 10 * s + 7) (h1 : 1 ≤ v) (h2 : v ≤ 200) (h3 : O.length ≤ 16 * v) : obC h own s v O := by
  obtain ⟨⟨o, r⟩, b1, -, ⟨d1, d2, d3⟩, e1, g⟩ := q
  exact ⟨a, b, c, r, b1, ow, ⟨d1, d2, d3, h1, h2⟩, ⟨e1, h3⟩, g⟩
/-- only the outbox changes -/
theorem shC.ob {h h1 : Hp} {own own1 : Nat → Nat} {s v v1 : Nat} {u : Nat → Nat} {q : Shd} {S : Nat → Nat → Prop} {O : List (Nat × Nat × Nat)} (k : shC h own s u v q) (w : owS own) (hs : s < 4) (f : cf S h h1) (e : exO own own1 h) (hS : ∀ a j, S a j → a = shA s + 4 ∨ own a = 10 * s + 5 ∨ own a = 10 * s + 6 ∨ own a = 10 * s + 7) (ob : obC h1 own1 s v1 O) : shC h1 own1 s u v1 (shSetO q O) := by
  obtain ⟨k1, k2, k3, k4, ⟨kN, k5⟩, k6⟩ := k
  have own4 : own (shA s + 4) = 10 * s + 8 := ow_at w hs (by omega) (by omega) (by omega)
  have no8 : ∀ o, o < 146 → ¬ (5 ≤ o ∧ o ≤ 7) → ¬ (9 ≤ o ∧ o ≤ 17 ∧ o % 2 = 1) → o ≠ 4 → ∀ j, ¬ S (shA s + o) j := fun o h1 h2 h3 h4 j z => by
    have ow := ow_at w hs h1 h2 h3
    rcases hS _ _ z with z | z | z | z
    · omega
    · omega
    · omega
    · omega
  have nox : ∀ a j, own a ≠ 10 * s + 8 → own a ≠ 10 * s + 5 → own a ≠ 10 * s + 6 → own a ≠ 10 * s + 7 → ¬ S a j := fun a j h1 h2 h3 h4 z => by
    rcases hS _ _ z with z | z | z | z
    · rw [z, own4] at h1; exact h1 rfl
    · exact h2 z
    · exact h3 z
    · exact h4 z
  refine ⟨k1.on f (fun j _ _ => no8 0 (by omega) (by omega) (by omega) (by omega) j) (fun a j ha => ?_), k2.on k1.1.1 f (fun j _ _ => no8 0 (by omega) (by omega) (by omega) (by omega) j), fun x hx => (k3 x hx).on f e (fun j _ _ => no8 _ (by omega) (by omega) (by omega) (by omega) j) (fun a j ha => nox a j (by omega) (by omega) (by omega) (by omega)), fun n hn => (k4 n hn).on f (fun a j h1 h2 _ => ?_), ⟨kN, fun n hn => ?_⟩, ob⟩
  · rcases ha with ha | ha <;> rw [ha]
    · exact no8 1 (by omega) (by omega) (by omega) (by omega) j
    · exact no8 2 (by omega) (by omega) (by omega) (by omega) j
  · have : a = shA s + (a - shA s) := by omega
    rw [this]
    exact no8 _ (by omega) (by omega) (by omega) (by omega) j
  · have hn16 : n < 16 := Nat.lt_of_lt_of_le hn kN
    have o := (k4 n hn16).1.1.1
    rw [f.R o (no8 _ (by omega) (by omega) (by omega) (by omega) _)]
    exact (k5 n hn).on f e (fun a j ha => nox a j (by omega) (by omega) (by omega) (by omega))
theorem c_sendOb {h : Hp} {own : Nat → Nat} {s v : Nat} {u : Nat → Nat} {q : Shd} (k : shC h own s u v q) (w : owS own) (hs : s < 4) (hO : (shO q).length ≤ 1000) (m : Nat × Nat × Nat) : ∃ h1 own1 v1, f_X2_add (shA s + 4) (nI m.1) (nI m.2.1) (nI m.2.2) h = some h1 ∧ shC h1 own1 s u v1 (shSetO q (shO q ++ [m])) ∧ acC s h own u v h1 own1 u v1 := by
  obtain ⟨a, b, c, R, ow, v1, v2, vl⟩ := k.2.2.2.2.2.R w hs k.1.2.2.2.2
  obtain ⟨h1, a1, b1, c1, n1, x1, x2, x3, x4⟩ := c_obAdd R vl (by omega) (by omega) m
  have own4 : own (shA s + 4) = 10 * s + 8 := ow_at w hs (by omega) (by omega) (by omega)
  have hS : ∀ p j, obX (shA s + 4) a b c p j → p = shA s + 4 ∨ own p = 10 * s + 5 ∨ own p = 10 * s + 6 ∨ own p = 10 * s + 7 := fun p j z => by
    rcases z with z | z | z | z
    · exact Or.inl z.1
    · rw [z]; exact Or.inr (Or.inl ow.1)
    · rw [z]; exact Or.inr (Or.inr (Or.inl ow.2.1))
    · rw [z]; exact Or.inr (Or.inr (Or.inr ow.2.2))
  have hF : ∀ p j, p < zn h → obX (shA s + 4) a b c p j → own p / 10 = s := fun p j _ z => by
    rcases hS p j z with z | z | z | z
    · rw [z, own4]; omega
    · rw [z]; omega
    · rw [z]; omega
    · rw [z]; omega
  rcases x4 with ⟨y1, y2, y3, y4, y5, y6⟩ | ⟨y1, y2, y3, y4, y5, y6, y7⟩
  · rw [y1, y2, y3, y4] at x2
    have l1 : (shO q ++ [m]).length ≤ 16 * v := by
      rw [List.length_append, List.length_singleton]
      omega
    refine ⟨h1, own, v, x1, k.ob w hs x3 (exO.rf own h) hS (obC_of x2 ow v1 v2 l1), acC.nz (x3.mono hF) y5⟩
  · have ex : exO own (fun p => if p < zn h then own p else if p = zn h then 10 * s + 5 else if p = zn h + 1 then 10 * s + 6 else 10 * s + 7) h := fun p hp => if_pos hp
    rw [y1, y3, y4, y5, show 2 * (16 * v) = 16 * (2 * v) by omega] at x2
    refine ⟨h1, _, 2 * v, x1, k.ob w hs x3 ex hS (obC_of x2 ⟨?_, ?_, ?_⟩ (by omega) (by omega) ?_), ⟨ex, x3.mono hF, by omega, by omega⟩⟩
    · show (if zn h < zn h then _ else if zn h = zn h then _ else _) = _
      rw [if_neg (by omega), if_pos rfl]
    · show (if zn h + 1 < zn h then _ else if zn h + 1 = zn h then _ else if zn h + 1 = zn h + 1 then _ else _) = _
      rw [if_neg (by omega), if_neg (by omega), if_pos rfl]
    · show (if zn h + 2 < zn h then _ else if zn h + 2 = zn h then _ else if zn h + 2 = zn h + 1 then _ else _) = _
      rw [if_neg (by omega), if_neg (by omega), if_neg (by omega)]
    · rw [List.length_append, List.length_singleton]
      omega
theorem c_happen {vs : Nat → List Prg} {now : Int32} {K : Nat} {h : Hp} {own : Nat → Nat} {s v n kd : Nat} {u : Nat → Nat} {q : Shd} {C : List Rec} (hv : vsOK vs) (hs : s < 4) (cx : cxC h own vs now) (k : shC h own s u v q) (hI : ShI vs q C) (hY : shY q ≤ lgW C + K) (hK : K ≤ 2000) (hl : shL q ≠ -1) (hn : n < shN q) {a b o : Int32} (ok : evOK (flP (shF q n)) (flE (shF q n)) (kd, a, b, o)) : ∃ x h1 own1 u1 v1, f_X6_happen (shA s) (wfA s n) (nI kd) a b o h = some (x, h1) ∧ x = (if (shHappen now q n kd a b o).1 = true then 1 else 0) ∧ shC h1 own1 s u1 v1 (shHappen now q n kd a b o).2 ∧ acC s h own u v h1 own1 u1 v1 := by
  obtain ⟨w, hz, -, oC, eC⟩ := id cx
  obtain ⟨c1, c2, c3, c4, c5, c6⟩ := cm_ok hI hY hK
  obtain ⟨p1, p2, p3, p4, p5, p6⟩ := row_ok hv hI hn
  obtain ⟨l, hlZ, hlL⟩ := c2.resolve_left hl
  obtain ⟨l1, l2, l3, l4, l5⟩ := hI.len hn
  have kb : kd < 13 := ok.2.1
  have h59 : (flE (shF q n)).length ≤ 59 := by
    rcases Nat.lt_or_ge (flE (shF q n)).length 60 with z | z
    · omega
    · have := l3 (by omega)
      rw [l5] at this
      exact absurd this ok.1
  obtain ⟨eok, ⟨e1, e12⟩, e59⟩ := evNow_ok ok
  rw [shHappen_eq now q n kd a b o rfl rfl]
  generalize hE : evNow (flE (shF q n)) kd a b o = e at *
  have wf := k.2.2.2.1 n (by omega)
  have wf : wfC h (wfA s n) (s + 4 * n) (shF q n) := wf
  obtain ⟨t, qh, qw, qk⟩ := id wf
  obtain ⟨⟨t1, t2, t3, t4, t5⟩, -, ⟨b1, -⟩, -⟩ := id t
  obtain ⟨⟨⟨oA, -, r701, -, -, -, -, r706⟩, -, -, -, o4⟩, -⟩ := id k
  have e204 := qh.1.1
  -- which event it is
  have red : f_X6_happen (shA s) (wfA s n) (nI kd) a b o h = f_X6_happen_74 e.2.2.2 (shA s) (wfA s n) (nI e.1) e.2.1 e.2.2.1 h := by
    have q10 : (10 : Int32) ≤ nI kd ↔ 10 ≤ kd := zi_le (a := 10) (by omega) (by omega)
    have q59 : nI (flE (shF q n)).length < (59 : Int32) ↔ (flE (shF q n)).length < 59 := zi_lt (b := 59) (by omega) (by omega)
    have d10 : ((1 : Int32) = 0) = False := o10
    rw [← hE]
    unfold evNow
    by_cases k10 : 10 ≤ kd
    · rw [decide_eq_false (by omega : ¬ kd < 10), Bool.false_and, if_neg (fun z => Bool.noConfusion z)]
      unfold f_X6_happen
      rw [if_pos (q10.mpr k10)]
      unfold f_X6_happen_22 f_X6_happen_23 f_X6_happen_36 f_X6_happen_48 f_X6_happen_61
      rw [if_pos rfl, if_pos rfl, if_pos rfl, if_pos rfl]
    · rw [decide_eq_true (by omega : kd < 10), Bool.true_and]
      unfold f_X6_happen
      rw [if_neg (fun z => k10 (q10.mp z)), ck_yes t1, t4, ck_yes b1, e204]
      by_cases k59 : (flE (shF q n)).length < 59
      · rw [decide_eq_false (by omega : ¬ 59 ≤ (flE (shF q n)).length), if_neg (fun z => Bool.noConfusion z), if_pos (q59.mpr k59)]
        unfold f_X6_happen_22 f_X6_happen_23 f_X6_happen_36 f_X6_happen_48 f_X6_happen_61
        rw [if_pos rfl, if_pos rfl, if_pos rfl, if_pos rfl]
      · rw [decide_eq_true (by omega : 59 ≤ (flE (shF q n)).length), if_pos rfl, if_neg (fun z => k59 (q59.mp z))]
        unfold f_X6_happen_23 f_X6_happen_36 f_X6_happen_48 f_X6_happen_61
        rw [if_neg (show ¬ (1 : Int32) = 0 by decide), if_neg (show ¬ (1 : Int32) = 0 by decide), if_neg (show ¬ (1 : Int32) = 0 by decide), if_neg (show ¬ (1 : Int32) = 0 by decide)]
        rfl
  rw [red]
  have eR := c_records k hlL (by omega) (by have := (c4 l hlZ).2; omega)
  have eN : zI h 1000 (wfA s n) / (4 : Int32) = nI n := by
    rw [t2]
    have : nI (s + 4 * n) / nI 4 = nI ((s + 4 * n) / 4) := zi_div (by omega) (by omega) (by omega)
    rw [show (4 : Int32) = nI 4 from rfl, this, show (s + 4 * n) / 4 = n by omega]
  obtain ⟨x, h1, own1, u1, x1, x2, x3, x4⟩ := c_commit k w hz hs c1 c2 c3 c4 (kd := e.1) (n := n) (by omega) (by omega) e.2.1 e.2.2.1 e.2.2.2
  obtain ⟨w1, hz1⟩ := x4.z w hz
  have cx1 := x4.cx hs cx
  cases hc : (shCommit q e.1 n e.2.1 e.2.2.1 e.2.2.2).1 with
  | false =>
    rw [hc, if_neg (fun z => Bool.noConfusion z)] at x2
    rw [x2] at x1
    rw [if_pos rfl]
    refine ⟨0, h1, own1, u1, v, ?_, rfl, x3, x4⟩
    simp only [f_X6_happen_74, o10, o00, bh, isO, inR, ck_true, bind_some9, Nat.reduceLeDiff, Nat.reduceEqDiff, and_self, and_true, true_and, false_and, and_false, not_false_eq_true, not_true_eq_false, or_self, or_false, false_or, if_true, if_false, reduceIte, zR_pE, zT_pE, zL_pE, zn_pE, zE_pE, zI_pE, zQ_pE, zJ_pE, zR_pI, zT_pI, zL_pI, zn_pI, zE_pI, zI_pI, zQ_pI, zJ_pI, zR_pR, zT_pR, zL_pR, zn_pR, zE_pR, zI_pR, zQ_pR, zJ_pR, zR_pJ, zT_pJ, zL_pJ, zn_pJ, zE_pJ, zI_pJ, zQ_pJ, zJ_pJ, oA, eR, t1, eN, x1]
  | true =>
    rw [hc, if_pos rfl] at x2
    rw [x2] at x1
    rw [if_neg (show ¬ true = false from fun z => by cases z)]
    obtain ⟨lw, wv, hC9⟩ := hI.w hl
    obtain ⟨⟨⟨⟨y1, y2, y3, y4, y5⟩, -⟩, -⟩, cut2, -⟩ := shCommit_cut wv.2.1 wv.1 hI.1.1 wv.2.2.1 e.1 n e.2.1 e.2.2.1 e.2.2.2
    obtain ⟨cL, cF⟩ := cut2 hc
    have wf1 := x3.2.2.2.1 n (by omega)
    have wf1 : wfC h1 (wfA s n) (s + 4 * n) (shF (shCommit q e.1 n e.2.1 e.2.2.1 e.2.2.2).2 n) := wf1
    rw [cF] at wf1 ⊢
    have pr1 := x3.2.2.2.2.1.2 n (by rw [y3]; exact hn)
    have pr1 : prC h1 own1 (zR h1 1004 (wfA s n)) (flP (shF (shCommit q e.1 n e.2.1 e.2.2.1 e.2.2.2).2 n)) := pr1
    rw [cF] at pr1
    obtain ⟨pg, pn⟩ := pg_of w1 hs (by omega) pr1
    obtain ⟨g1, g2, g3, g4, g5, g6, g7, g8, g9⟩ := id p5
    have s60 := p1.1
    have setv : (e.1 = 6 ∨ e.1 = 2 ∨ e.1 = 3 ∨ (e.1 = 8 ∧ wkP (flW (shF q n)) = 2) ∨ (e.1 = 7 ∧ wkP (flW (shF q n)) = 3)) → wkS (flW (shF q n)) < (flP (shF q n)).length → ∃ v, v < 8 ∧ (stpAt (flP (shF q n)) (wkS (flW (shF q n)))).2.1 = nI v := fun hc9 hS => by
      have sets : ∀ L : Int32, (stpAt (flP (shF q n)) (wkS (flW (shF q n)))).1 = L → stSets L → L ≠ 71 → L ≠ 73 → L ≠ 84 → L ≠ 83 → L ≠ 69 → ∃ v, v < 8 ∧ (stpAt (flP (shF q n)) (wkS (flW (shF q n)))).2.1 = nI v := fun L hL hs9 n1 n2 n3 n4 n5 => by
        rcases (p1.2 _ hS).2.2 with ⟨-, z⟩ | ⟨z, -⟩ | z
        · exact z
        · rw [hL] at z; rcases z with z | z
          · exact absurd z n1
          · exact absurd z n2
        · rw [hL] at z; rcases z with z | z | z
          · exact absurd z n3
          · exact absurd z n4
          · exact absurd z n5
      have ph : (e.1 = 2 ∨ e.1 = 3) → wkP (flW (shF q n)) = 0 := fun z => by
        rw [l5]
        obtain ⟨-, -, -, h9⟩ := eok
        rcases h9 with h9 | ⟨h9, -⟩ | ⟨-, nw, hw⟩ | ⟨h9, -⟩ | ⟨-, h9⟩ | ⟨-, h9⟩
        · omega
        · omega
        · obtain ⟨-, hw⟩ := wkWish_lt hw (by omega)
          omega
        · exact h9
        · omega
        · omega
      rcases hc9 with z | z | z | ⟨z1, z2⟩ | ⟨z1, z2⟩
      · obtain ⟨nw, hw⟩ := evOK_wish2 eok (Or.inr (Or.inr (Or.inl z)))
        rw [← l5, z] at hw
        obtain ⟨-, hw⟩ := wkWish_lt hw (by omega)
        rcases hw with ⟨y, -⟩ | ⟨y, -⟩ | ⟨-, y⟩ | ⟨y, -⟩
        · omega
        · omega
        · exact sets 67 y (by unfold stSets; decide) (by decide) (by decide) (by decide) (by decide) (by decide)
        · omega
      · exact sets 65 (g6 (ph (by omega))).2 (by unfold stSets; decide) (by decide) (by decide) (by decide) (by decide) (by decide)
      · exact sets 65 (g6 (ph (by omega))).2 (by unfold stSets; decide) (by decide) (by decide) (by decide) (by decide) (by decide)
      · exact sets 87 (g8 z2).2 (by unfold stSets; decide) (by decide) (by decide) (by decide) (by decide) (by decide)
      · exact sets 74 (g9 z2).2 (by unfold stSets; decide) (by decide) (by decide) (by decide) (by decide) (by decide)
    have ec1 := cx1.2.2.2.2
    have oc1 := cx1.2.2.2.1
    obtain ⟨⟨⟨oA1, -, r7011, -, -, -, -, r7061⟩, -, -, -, o41⟩, -⟩ := id x3
    obtain ⟨h2, z1, z2, z3, z4, z5⟩ := c_take wf1 pg pn s60 (by omega) (by omega) e (by omega) (by omega) setv (by omega) now
    have ow2 : ∀ p j, tkX (wfA s n) p j → shA s + (18 + 8 * n) ≤ p ∧ p ≤ shA s + (18 + 8 * n) + 7 := fun p j z => by
      unfold tkX wkX hsX wfA at z
      omega
    have k2 := x3.row (n := n) (f9 := flTake (shF q n) e now) w1 hs (by omega) z4 ow2 z2 (fun _ => by
      have e4 : zR h2 1004 (wfA s n) = zR h1 1004 (wfA s n) := z4.R wf1.1.1.1 (by unfold tkX wkX hsX; omega)
      have : prC h2 own1 (zR h2 1004 (wfA s n)) (flP (shF q n)) := by
        rw [e4]
        exact pr1.on z4 (exO.rf own1 h1) (fun p j hp z => by
          have := ow2 p j z
          have e : p = shA s + (p - shA s) := by omega
          rw [e, ow_at w1 hs (by omega) (by omega) (by omega)] at hp
          omega)
      exact this)
    have a2 : acC s h1 own1 u1 v h2 own1 u1 v := acC.nz (z4.mono (fun p j _ z => by
      have := ow2 p j z
      have e : p = shA s + (p - shA s) := by omega
      rw [e]
      exact ow8 w1 hs (by omega) (by omega) (by omega))) z5
    obtain ⟨t2', qh2, -⟩ := id z2
    have eM := c_isMessage t2' qh2 (by show 0 < (flE (shF q n) ++ [e]).length; rw [List.length_append, List.length_singleton]; omega) (k := e.1) (by omega)
    have isM : isMsg (flTake (shF q n) e now) e.1 = (decide (e.1 = 6) || decide (e.1 = 9) || (decide (10 ≤ e.1) && decide (rpO (flE (flTake (shF q n) e now)) < 0))) := rfl
    rw [← isM] at eM
    have t21 := t2'.1.1
    have w11 := wf1.1.1.1
    cases hm : isMsg (flTake (shF q n) e now) e.1 with
    | false =>
      rw [hm, if_neg (fun z => Bool.noConfusion z)] at eM
      refine ⟨1, h2, own1, u1, v, ?_, rfl, ?_, x4.tr a2⟩
      · simp only [f_X6_happen_74, o10, o00, bh, isO, inR, ck_true, bind_some9, Nat.reduceLeDiff, Nat.reduceEqDiff, and_self, and_true, true_and, false_and, and_false, not_false_eq_true, not_true_eq_false, or_self, or_false, false_or, if_true, if_false, reduceIte, zR_pE, zT_pE, zL_pE, zn_pE, zE_pE, zI_pE, zQ_pE, zJ_pE, zR_pI, zT_pI, zL_pI, zn_pI, zE_pI, zI_pI, zQ_pI, zJ_pI, zR_pR, zT_pR, zL_pR, zn_pR, zE_pR, zI_pR, zQ_pR, zJ_pR, zR_pJ, zT_pJ, zL_pJ, zn_pJ, zE_pJ, zI_pJ, zQ_pJ, zJ_pJ, oA, eR, t1, eN, x1, oA1, r7011, oc1, w11, ec1, z1, t21, eM]
      · exact k2
    | true =>
      have oA2 := k2.1.1.1
      have r7062 := k2.1.1.2.2.2.2.2.2.2
      have o42 := k2.1.2.2.2.2
      obtain ⟨h3, own3, v3, s1, s2, s3⟩ := c_sendOb k2 w1 hs (by
        show (shO (shCommit q e.1 n e.2.1 e.2.2.1 e.2.2.2).2).length ≤ 1000
        rw [y4]
        have := oc_lt hI
        omega) (shRecs q, n, (flE (flTake (shF q n) e now)).length - 1)
      refine ⟨1, h3, own3, u1, v3, ?_, rfl, ?_, (x4.tr a2).tr s3⟩
      · obtain ⟨⟨t1', t2'', t3', t4', t5'⟩, -, ⟨b1', -⟩, -⟩ := id t2'
        have e204' := qh2.1.1
        have eN2 : zI h2 1000 (wfA s n) / (4 : Int32) = nI n := by
          rw [t2'']
          have : nI (s + 4 * n) / nI 4 = nI ((s + 4 * n) / 4) := zi_div (by omega) (by omega) (by omega)
          rw [show (4 : Int32) = nI 4 from rfl, this, show (s + 4 * n) / 4 = n by omega]
        have eL2 : nI (flE (flTake (shF q n) e now)).length - (1 : Int32) = nI ((flE (flTake (shF q n) e now)).length - 1) := zi_sub (b := 1) (by show 1 ≤ (flE (shF q n) ++ [e]).length; rw [List.length_append, List.length_singleton]; omega)
        rw [hm, if_pos rfl] at eM
        simp only [f_X6_happen_74, o10, o00, bh, isO, inR, ck_true, bind_some9, Nat.reduceLeDiff, Nat.reduceEqDiff, and_self, and_true, true_and, false_and, and_false, not_false_eq_true, not_true_eq_false, or_self, or_false, false_or, if_true, if_false, reduceIte, zR_pE, zT_pE, zL_pE, zn_pE, zE_pE, zI_pE, zQ_pE, zJ_pE, zR_pI, zT_pI, zL_pI, zn_pI, zE_pI, zI_pI, zQ_pI, zJ_pI, zR_pR, zT_pR, zL_pR, zn_pR, zE_pR, zI_pR, zQ_pR, zJ_pR, zR_pJ, zT_pJ, zL_pJ, zn_pJ, zE_pJ, zI_pJ, zQ_pJ, zJ_pJ, oA, eR, t1, eN, x1, oA1, r7011, oc1, w11, ec1, z1, t21, eM, oA2, t4', b1', r7062, o42, eN2, e204', eL2, s1]
      · rw [if_pos rfl]; exact s2
/-! GOING ON, IN THE CLASS -/
theorem c_runS {vs : Nat → List Prg} {now : Int32} {h : Hp} {own : Nat → Nat} {s v n : Nat} {u : Nat → Nat} {q : Shd} (w : owS own) (hs : s < 4) (k : shC h own s u v q) (hn : n < shN q) (hP : prgOK (flP (shF q n))) (hl : 0 < (flE (shF q n)).length) (ko : kOK (flE (shF q n))) (G : wkG (flP (shF q n)) (flE (shF q n)) (flW (shF q n))) : ∃ r h1, f_X9_run (wfA s n) now h = some (r, h1) ∧ wantC h1 (wfA s n) (flRun (shF q n) now).1 r ∧ shC h1 own s u v (shSetF q n (flRun (shF q n) now).2) ∧ acC s h own u v h1 own u v := by
  have hN := k.2.2.2.2.1.1
  have wf := k.2.2.2.1 n (by omega)
  have wf : wfC h (wfA s n) (s + 4 * n) (shF q n) := wf
  obtain ⟨t, qh, qw, qk⟩ := id wf
  have pr := k.2.2.2.2.1.2 n hn
  have pr : prC h own (zR h 1004 (wfA s n)) (flP (shF q n)) := pr
  obtain ⟨pg, -⟩ := pg_of w hs (by omega) pr
  obtain ⟨r, h1, x1, x2, x3, x4, x5⟩ := c_run t qw qh pg hP hl ko G now
  have ow2 : ∀ p j, wkX (wfA s n) p j → shA s + (18 + 8 * n) ≤ p ∧ p ≤ shA s + (18 + 8 * n) + 7 := fun p j z => by
    unfold wkX wfA at z
    omega
  have own2 : ∀ p j, wkX (wfA s n) p j → own p = 10 * s + 8 := fun p j z => by
    have := ow2 p j z
    have e : p = shA s + (p - shA s) := by omega
    rw [e]
    exact ow_at w hs (by omega) (by omega) (by omega)
  refine ⟨r, h1, x1, x2, k.row (n := n) (f9 := (flRun (shF q n) now).2) w hs (by omega) x4 ow2 ⟨t.wk x4, qh.wk t x4, x3, qk.on t x4 (fun j => by unfold wkX; omega)⟩ (fun _ => ?_), acC.nz (x4.mono (fun p j _ z => by rw [own2 p j z]; omega)) x5⟩
  have e4 : zR h1 1004 (wfA s n) = zR h 1004 (wfA s n) := x4.R t.1.1 (by unfold wkX; omega)
  have : prC h1 own (zR h1 1004 (wfA s n)) (flP (shF q n)) := by
    rw [e4]
    exact pr.on x4 (exO.rf own h) (fun p j hp z => by rw [own2 p j z] at hp; omega)
  exact this
/-- an event and the steps behind it -/
theorem c_make {vs : Nat → List Prg} {now : Int32} {K : Nat} {h : Hp} {own : Nat → Nat} {s v n kd : Nat} {u : Nat → Nat} {q : Shd} {C : List Rec} (hv : vsOK vs) (hs : s < 4) (cx : cxC h own vs now) (k : shC h own s u v q) (hI : ShI vs q C) (hY : shY q ≤ lgW C + K) (hK : K ≤ 2000) (hl : shL q ≠ -1) (hn : n < shN q) {a b o : Int32} (ok : evOK (flP (shF q n)) (flE (shF q n)) (kd, a, b, o)) : ∃ x h1 own1 u1 v1, f_X6_happen (shA s) (wfA s n) (nI kd) a b o h = some (x, h1) ∧ acC s h own u v h1 own1 u1 v1 ∧ (((shMake now q n kd a b o).1 = false ∧ x = 0 ∧ shC h1 own1 s u1 v1 (shMake now q n kd a b o).2) ∨ ((shMake now q n kd a b o).1 = true ∧ x = 1 ∧ stC h1 s ∧ ∃ r h2, f_X9_run (wfA s n) now h1 = some (r, h2) ∧ wantC h2 (wfA s n) (flRun (shF (shMake now q n kd a b o).2 n) now).1 r ∧ shC h2 own1 s u1 v1 (shMake now q n kd a b o).2 ∧ acC s h1 own1 u1 v1 h2 own1 u1 v1)) := by
  obtain ⟨x, h1, own1, u1, v1, x1, x2, x3, x4⟩ := c_happen hv hs cx k hI hY hK hl hn ok
  refine ⟨x, h1, own1, u1, v1, x1, x4, ?_⟩
  cases hc : (shHappen now q n kd a b o).1 with
  | false =>
    left
    have eM : shMake now q n kd a b o = shHappen now q n kd a b o := by unfold shMake; rw [if_pos hc]
    rw [eM]
    rw [hc, if_neg (fun z => Bool.noConfusion z)] at x2
    exact ⟨hc, x2, x3⟩
  | true =>
    right
    have eM : shMake now q n kd a b o = (true, shSetF (shHappen now q n kd a b o).2 n (flRun (shF (shHappen now q n kd a b o).2 n) now).2) := by unfold shMake; rw [if_neg (by rw [hc]; exact fun z => by cases z)]
    obtain ⟨w1, hz1⟩ := x4.z cx.1 cx.2.1
    obtain ⟨p1, p2, p3, p4, p5, p6⟩ := row_ok hv hI hn
    obtain ⟨l1, l2, l3, l4, l5⟩ := hI.len hn
    obtain ⟨eok, ⟨e1, e12⟩, e59⟩ := evNow_ok ok
    have hF : shF (shHappen now q n kd a b o).2 n = flTake (shF q n) (evNow (flE (shF q n)) kd a b o) now ∧ shN (shHappen now q n kd a b o).2 = shN q := by
      obtain ⟨lw, wv, hC9⟩ := hI.w hl
      generalize hE : evNow (flE (shF q n)) kd a b o = e at *
      obtain ⟨⟨⟨⟨y1, y2, y3, y4, y5⟩, -⟩, -⟩, cut2, -⟩ := shCommit_cut wv.2.1 wv.1 hI.1.1 wv.2.2.1 e.1 n e.2.1 e.2.2.1 e.2.2.2
      have eq1 := shHappen_eq now q n kd a b o rfl hE
      rw [eq1] at hc ⊢
      cases hc2 : (shCommit q e.1 n e.2.1 e.2.2.1 e.2.2.2).1 with
      | false => rw [hc2, if_pos rfl] at hc; cases hc
      | true =>
        rw [if_neg (fun z => by cases z)]
        obtain ⟨cL, cF⟩ := cut2 hc2
        split
        · refine ⟨?_, y3⟩
          show upf (shF (shCommit q e.1 n e.2.1 e.2.2.1 e.2.2.2).2) n _ n = _
          rw [cF]
          exact if_pos rfl
        · refine ⟨?_, y3⟩
          show upf (shF (shCommit q e.1 n e.2.1 e.2.2.1 e.2.2.2).2) n _ n = _
          rw [cF]
          exact if_pos rfl
    have hn1 : n < shN (shHappen now q n kd a b o).2 := by rw [hF.2]; exact hn
    have Gt : wkG (flP (shF q n)) (flE (shF q n) ++ [evNow (flE (shF q n)) kd a b o]) (wkTake (flP (shF q n)) (flW (shF q n)) (evNow (flE (shF q n)) kd a b o)) := by
      rw [l5]
      exact wkG_take p1 (by rw [← l5]; exact p5) eok
    obtain ⟨r, h2, z1, z2, z3, z4⟩ := c_runS (vs := vs) (now := now) w1 hs x3 hn1 (by rw [hF.1]; exact p1) (by rw [hF.1]; show 0 < (flE (shF q n) ++ [_]).length; rw [List.length_append, List.length_singleton]; omega) (by
      rw [hF.1]
      intro e he
      rcases List.mem_append.mp he with z | z
      · exact p4 e z
      · rw [List.mem_singleton.mp z]; omega) (by rw [hF.1]; exact Gt)
    rw [hc, if_pos rfl] at x2
    refine ⟨by rw [eM], x2, x3.1, r, h2, z1, ?_, ?_, z4⟩
    · rw [eM]
      show wantC h2 (wfA s n) (flRun (shF (shSetF (shHappen now q n kd a b o).2 n _) n) now).1 r
      rw [setF_at1, flRun_again]
      exact z2
    · rw [eM]; exact z3
theorem c_goL {vs : Nat → List Prg} {now : Int32} {K s n : Nat} (hv : vsOK vs) (hs : s < 4) (hK : K ≤ 2000) : ∀ (i fuel : Nat) (h : Hp) (own u : Nat → Nat) (v : Nat) (q : Shd) (C : List Rec) (r : Int32), cxC h own vs now → shC h own s u v q → ShI vs q C → shY q ≤ lgW C + K → shL q ≠ -1 → n < shN q → 60 ≤ i + (flE (shF q n)).length → i ≤ 60 → i + 1 < fuel → wantC h (wfA s n) (flRun (shF q n) now).1 r → ∃ h1 own1 u1 v1, f_X6_goOn_14 fuel (shA s) (wfA s n) r (nI (60 - i)) h = some h1 ∧ shC h1 own1 s u1 v1 (shGoL now n i (flRun (shF q n) now).1 q) ∧ acC s h own u v h1 own1 u1 v1
  | i, 0, h, own, u, v, q, C, r, _, _, _, _, _, _, _, _, hf, _ => absurd hf (Nat.not_lt_zero _)
  | 0, fuel + 1, h, own, u, v, q, C, r, cx, k, hI, hY, hl, hn, h60, hi, hf, hw => by
    refine ⟨h, own, u, v, ?_, ?_, acC.rf s h own u v⟩
    · unfold f_X6_goOn_14
      rw [if_pos (show (60 : Int32) ≤ nI (60 - 0) by decide)]
    · cases (flRun (shF q n) now).1 <;> exact k
  | i + 1, fuel + 1, h, own, u, v, q, C, r, cx, k, hI, hY, hl, hn, h60, hi, hf, hw => by
    have c60 : ¬ (60 : Int32) ≤ nI (60 - (i + 1)) := zi_le0 (a := 60) (by omega) (by omega) (by omega)
    have hz := hI.2.1.2.2 n (by rw [← hI.2.1.1]; exact hn)
    obtain ⟨l1, l2, l3, l4, l5⟩ := hI.len hn
    have ew : (flRun (shF q n) now).1 = if wkP (flW (shF q n)) ≠ 5 then none else wkWish (flP (shF q n)) (rpO (flE (shF q n))) now (flW (shF q n)) := by rw [flRun_Zeq hz, hz.1]
    cases hk : (flRun (shF q n) now).1 with
    | none =>
      rw [hk] at hw
      have hw : r = -1 := hw
      refine ⟨h, own, u, v, ?_, k, acC.rf s h own u v⟩
      unfold f_X6_goOn_14
      rw [if_neg c60, if_pos hw]
    | some kab =>
      obtain ⟨kd, a, b⟩ := kab
      rw [hk] at hw ew
      obtain ⟨w1, w2, w3⟩ := hw
      have c5 : wkP (flW (shF q n)) = 5 := by
        by_cases c : wkP (flW (shF q n)) = 5
        · exact c
        · rw [if_pos c] at ew; cases ew
      rw [if_neg (fun z => z c5)] at ew
      obtain ⟨kb, k0⟩ := wkWish_kinds ew.symm
      have ok : evOK (flP (shF q n)) (flE (shF q n)) (kd, a, b, 0) := ⟨by rw [← l5]; omega, kb, k0, Or.inr (Or.inr (Or.inl ⟨by rw [← l5]; exact c5, now, by rw [← l5]; exact ew.symm⟩))⟩
      have oA := k.1.1.1
      have hN := k.2.2.2.2.1.1
      have oW := (k.2.2.2.1 n (by omega)).1.1.1
      have oW : isO h (wfA s n) 10 := oW
      have dm : (nI kd = -1) = False := eq_false (zi_ne1 (by omega))
      have e1 : nI (60 - (i + 1)) + (1 : Int32) = nI (60 - i) := by rw [zi_one]; congr 1; omega
      obtain ⟨x, h1, own1, u1, v1, x1, x2, x3⟩ := c_make hv hs cx k hI hY hK hl hn ok
      rw [shGoL_make]
      rcases x3 with ⟨y1, y2, y3⟩ | ⟨y1, y2, yS, r2, h2, y3, y4, y5, y6⟩
      · rw [if_pos y1]
        refine ⟨h1, own1, u1, v1, ?_, y3, x2⟩
        obtain ⟨fuel, rfl⟩ : ∃ j, fuel = j + 1 := ⟨fuel - 1, by omega⟩
        have last : f_X6_goOn_14 (fuel + 1) (shA s) (wfA s n) (-1) (nI (60 - i)) h1 = some h1 := by
          unfold f_X6_goOn_14
          split
          · rfl
          · rw [if_pos rfl]
        rw [← last, w1]
        rw [y2] at x1
        simp only [f_X6_goOn_14, f_X6_goOn_58, o10, o00, bh, isO, inR, ck_true, bind_some9, Nat.reduceLeDiff, Nat.reduceEqDiff, and_self, and_true, true_and, false_and, and_false, not_false_eq_true, not_true_eq_false, or_self, or_false, false_or, if_true, if_false, reduceIte, zR_pE, zT_pE, zL_pE, zn_pE, zE_pE, zI_pE, zQ_pE, zJ_pE, zR_pI, zT_pI, zL_pI, zn_pI, zE_pI, zI_pI, zQ_pI, zJ_pI, zR_pR, zT_pR, zL_pR, zn_pR, zE_pR, zI_pR, zQ_pR, zJ_pR, zR_pJ, zT_pJ, zL_pJ, zn_pJ, zE_pJ, zI_pJ, zQ_pJ, zJ_pJ, c60, dm, oW, oA, w2, w3, x1, e1]
      · rw [if_neg (by rw [y1]; exact fun z => by cases z)]
        obtain ⟨mI, mG, mL, mN, mE, -⟩ := (shMake_I hI hl hn ok now rfl).1 y1
        have cx2 := y6.cx hs (x2.cx hs cx)
        obtain ⟨h3, own3, u3, v3, z1, z2, z3⟩ := c_goL hv hs hK i fuel h2 own1 u1 v1 _ _ r2 cx2 y5 mI (Gr.y mG hY) (by rw [mL]; exact hl) (by rw [mN]; exact hn) (by rw [mE, List.length_append, List.length_singleton]; omega) (by omega) (by omega) y4
        refine ⟨h3, own3, u3, v3, ?_, z2, (x2.tr y6).tr z3⟩
        rw [← z1, w1]
        rw [y2] at x1
        have cx1 := x2.cx hs cx
        have oA1 := x2.2.1.O oA
        have oW1 := x2.2.1.O oW
        have r7011 : zR h1 701 (shA s) = 14 := yS.1.2.2.1
        have oc1 := cx1.2.2.2.1
        have ec1 := cx1.2.2.2.2
        simp only [f_X6_goOn_14, f_X6_goOn_58, o10, o00, bh, isO, inR, ck_true, bind_some9, Nat.reduceLeDiff, Nat.reduceEqDiff, and_self, and_true, true_and, false_and, and_false, not_false_eq_true, not_true_eq_false, or_self, or_false, false_or, if_true, if_false, reduceIte, zR_pE, zT_pE, zL_pE, zn_pE, zE_pE, zI_pE, zQ_pE, zJ_pE, zR_pI, zT_pI, zL_pI, zn_pI, zE_pI, zI_pI, zQ_pI, zJ_pI, zR_pR, zT_pR, zL_pR, zn_pR, zE_pR, zI_pR, zQ_pR, zJ_pR, zR_pJ, zT_pJ, zL_pJ, zn_pJ, zE_pJ, zI_pJ, zQ_pJ, zJ_pJ, c60, dm, oW, oA, w2, w3, x1, oA1, r7011, oc1, oW1, ec1, y3, e1]
theorem c_goOn {vs : Nat → List Prg} {now : Int32} {K s n : Nat} (hv : vsOK vs) (hs : s < 4) (hK : K ≤ 2000) {h : Hp} {own u : Nat → Nat} {v : Nat} {q : Shd} {C : List Rec} (cx : cxC h own vs now) (k : shC h own s u v q) (hI : ShI vs q C) (hY : shY q ≤ lgW C + K) (hl : shL q ≠ -1) (hn : n < shN q) : ∃ h1 own1 u1 v1, f_X6_goOn (shA s) (wfA s n) h = some h1 ∧ shC h1 own1 s u1 v1 (shGo now q n) ∧ acC s h own u v h1 own1 u1 v1 := by
  obtain ⟨p1, p2, p3, p4, p5, p6⟩ := row_ok hv hI hn
  obtain ⟨r, h1, x1, x2, x3, x4⟩ := c_runS (vs := vs) (now := now) cx.1 hs k hn p1 p2 p4 p5
  have hz := hI.2.1.2.2 n (by rw [← hI.2.1.1]; exact hn)
  have e1 : (flRun (shF q n) now).2 = shF q n := by rw [flRun_Zeq hz]
  have e2 : shSetF q n (shF q n) = q := by
    unfold shSetF
    rw [upf_same]
  rw [e1, e2] at x3
  have cx1 := x4.cx hs cx
  obtain ⟨h2, own2, u2, v2, y1, y2, y3⟩ := c_goL hv hs hK 60 fz h1 own u v q C r cx1 x3 hI hY hl hn (by omega) (by omega) (fz_big (by omega)) x2
  have eg : shGo now q n = shGoL now n 60 (flRun (shF q n) now).1 q := by
    unfold shGo
    rw [e1, e2]
  rw [eg]
  refine ⟨h2, own2, u2, v2, ?_, y2, x4.tr y3⟩
  have oA := k.1.1.1
  have r701 := k.1.1.2.2.1
  have hN := k.2.2.2.2.1.1
  have oW := (k.2.2.2.1 n (by omega)).1.1.1
  have oW : isO h (wfA s n) 10 := oW
  unfold f_X6_goOn
  rw [ck_yes oA, r701, ck_yes cx.2.2.2.1, ck_yes oW, cx.2.2.2.2, x1]
  exact (congrArg (fun z => f_X6_goOn_14 fz (shA s) (wfA s n) r z h1) zi_zero).trans y1
theorem c_bring {vs : Nat → List Prg} {now : Int32} {K s n kd : Nat} (hv : vsOK vs) (hs : s < 4) (hK : K ≤ 2000) {h : Hp} {own u : Nat → Nat} {v : Nat} {q : Shd} {C : List Rec} (cx : cxC h own vs now) (k : shC h own s u v q) (hI : ShI vs q C) (hY : shY q ≤ lgW C + K) (hl : shL q ≠ -1) (hn : n < shN q) {a b o : Int32} (ok : evOK (flP (shF q n)) (flE (shF q n)) (kd, a, b, o)) : ∃ h1 own1 u1 v1, f_X6_bring (shA s) (wfA s n) (nI kd) a b o h = some (if (shBring now q n kd a b o).1 = true then 1 else 0, h1) ∧ shC h1 own1 s u1 v1 (shBring now q n kd a b o).2 ∧ acC s h own u v h1 own1 u1 v1 := by
  obtain ⟨x, h1, own1, u1, v1, x1, x2, x3⟩ := c_make hv hs cx k hI hY hK hl hn ok
  have oA := k.1.1.1
  rw [shBring_eq]
  rcases x3 with ⟨y1, y2, y3⟩ | ⟨y1, y2, yS, r2, h2, y3, y4, y5, y6⟩
  · rw [if_pos y1]
    refine ⟨h1, own1, u1, v1, ?_, y3, x2⟩
    rw [y2] at x1
    unfold f_X6_bring
    rw [ck_yes oA, x1]
    rfl
  · have hne : ¬ (shMake now q n kd a b o).1 = false := by rw [y1]; exact fun z => by cases z
    rw [if_neg hne]
    obtain ⟨mI, mG, mL, mN, mE, -⟩ := (shMake_I hI hl hn ok now rfl).1 y1
    have cx1 := x2.cx hs cx
    have cx2 := y6.cx hs cx1
    obtain ⟨h3, own3, u3, v3, z1, z2, z3⟩ := c_goL hv hs hK 60 fz h2 own1 u1 v1 _ _ r2 cx2 y5 mI (Gr.y mG hY) (by rw [mL]; exact hl) (by rw [mN]; exact hn) (by omega) (by omega) (fz_big (by omega)) y4
    refine ⟨h3, own3, u3, v3, ?_, z2, (x2.tr y6).tr z3⟩
    rw [y2] at x1
    have hN := k.2.2.2.2.1.1
    have oW := (k.2.2.2.1 n (by omega)).1.1.1
    have oW : isO h (wfA s n) 10 := oW
    have oA1 := yS.1.1
    have r7011 := yS.1.2.2.1
    have oW1 := x2.2.1.O oW
    unfold f_X6_bring
    rw [ck_yes oA, x1]
    show (if (1 : Int32) = 0 then some (0, h1) else ck (isO h1 (shA s) 7) ((f_X6_goOn (shA s) (wfA s n) h1).bind (fun q4 => some (1, q4)))) = _
    rw [if_neg (show ¬ (1 : Int32) = 0 by decide), ck_yes oA1]
    have eG : f_X6_goOn (shA s) (wfA s n) h1 = some h3 := by
      unfold f_X6_goOn
      rw [ck_yes oA1, r7011, ck_yes cx1.2.2.2.1, ck_yes oW1, cx1.2.2.2.2, y3]
      exact (congrArg (fun z => f_X6_goOn_14 fz (shA s) (wfA s n) r2 z h2) zi_zero).trans z1
    rw [eG]
    rfl
