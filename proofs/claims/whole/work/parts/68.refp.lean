/-! POWER, before the elections that follow -/
theorem shLose_id {h : Shd} (h1 : shL h = -1) (h2 : ∀ n, n < shN h → flK (shF h n) = 0) : shLose h = h := by
  obtain ⟨z, l, t, d, n, f, o, q⟩ := h
  have h1 : l = -1 := h1
  show (z, (-1 : Int32), t, d, n, (fun m => if m < n then (flP (f m), flE (f m), flW (f m), tkFree (flT (f m))) else f m), o, q) = (z, l, t, d, n, f, o, q)
  rw [h1]
  have : (fun m => if m < n then ((flP (f m), flE (f m), flW (f m), tkFree (flT (f m))) : Flw) else f m) = f := by
    funext m
    split
    · next c =>
      have k0 := h2 m c
      have k0 : (f m).2.2.2.2.2.2.2.1 = 0 := k0
      show (flP (f m), flE (f m), flW (f m), tkFree (flT (f m))) = f m
      unfold tkFree
      rw [← k0]
    · rfl
  rw [this]
theorem raise_I {vs : Nat → List Prg} {h : Shd} {C : List Rec} (hS : ShS vs h C) {r : Nat} (hr : r < shZ h) (hd : dkU (shD h r) = false) {K : Nat} (hK : shY h ≤ lgW C + K) : ShI vs (shRaise h r) C ∧ shY (shRaise h r) ≤ lgW C + K := by
  obtain ⟨⟨R, s, ⟨b1, b2, b3⟩, t⟩, c, m⟩ := hS
  generalize hd9 : (if shWorks h then dkAlike (dkL (shD h r), true, dkF (shD h r), 0, dkR (shD h r)) (shD h (shL h).toNatClampNeg) else ((dkL (shD h r), true, dkF (shD h r), 0, dkR (shD h r)) : Dk)) = d9
  have e : shRaise h r = shSetD h (upf (shD h) r d9) := by rw [← hd9]; rfl
  have R2 := shRaise_R R hr hd
  rw [e] at R2 ⊢
  have f1 : dkF (shD h r) = -1 := (b2 r hr).2.2 hd
  have ok0 : dkOK (dkL (shD h r), true, dkF (shD h r), 0, dkR (shD h r)) := fun _ => ⟨rfl, Or.inl f1⟩
  have q9 : dkOK d9 ∧ dkF d9 = -1 ∧ (dkL d9).length ≤ shQ h := by
    rw [← hd9]
    split
    · next w =>
      have hl := (works_iff h).mp w
      obtain ⟨-, P, Q, -, -, -, -, hW⟩ := R
      obtain ⟨l, ⟨w1, w2, -⟩, -, -⟩ := hW hl
      rw [w2, zi_nat (by have := R2.1; have : shZ (shSetD h (upf (shD h) r d9)) = shZ h := rfl; omega)]
      exact ⟨dkOK_alike _ ok0, (dkDn_alike _ _).1 f1, Nat.le_trans (dkLen_alike _ _) (b2 l w1).1⟩
    · exact ⟨ok0, f1, (b2 r hr).1⟩
  have hB : ShB (shSetD h (upf (shD h) r d9)) := by
    refine ⟨b1, fun x hx => ?_, b3⟩
    show (dkL (upf (shD h) r d9 x)).length ≤ shQ h ∧ dkOK (upf (shD h) r d9 x) ∧ (dkU (upf (shD h) r d9 x) = false → dkF (upf (shD h) r d9 x) = -1)
    by_cases ex : x = r
    · rw [show upf (shD h) r d9 x = d9 from if_pos ex]; exact ⟨q9.2.2, q9.1, fun _ => q9.2.1⟩
    · rw [show upf (shD h) r d9 x = shD h x from if_neg ex]; exact b2 x hx
  refine ⟨⟨R2, s, hB, t⟩, ?_⟩
  have : fusN (shZ h) (upf (shD h) r d9) ≤ fusN (shZ h) (shD h) := sumN_mono _ (fun i hi => by
    show (if dkF (upf (shD h) r d9 i) = -1 then 0 else 1) ≤ (if dkF (shD h i) = -1 then 0 else 1)
    by_cases ex : i = r
    · rw [show upf (shD h) r d9 i = d9 from if_pos ex, if_pos q9.2.1]; exact Nat.zero_le _
    · rw [show upf (shD h) r d9 i = shD h i from if_neg ex]; exact Nat.le_refl _)
  unfold shY at hK ⊢
  show shQ h + 2 * fusN (shZ h) (upf (shD h) r d9) + (if shL h = -1 then 1 else 0) + leaN (shN h) (shF h) ≤ _
  omega
abbrev dkOff (d : Dk) : Dk := (dkL d, false, -1, dkT d, dkR d)
theorem lower_I {vs : Nat → List Prg} {h : Shd} {C : List Rec} (hS : ShS vs h C) {r : Nat} (hr : r < shZ h) {K : Nat} (hK : shY h ≤ lgW C + K) : ShI vs (shLower h r) C ∧ shY (shLower h r) ≤ lgW C + (K + 1) := by
  obtain ⟨⟨R, s, ⟨b1, b2, b3⟩, t⟩, c, m⟩ := hS
  have R2 := shLower_R R hr
  have fd : ∀ x, x < shZ h → dkF (shD h x) = -1 → dkF (upf (shD h) r (dkL (shD h r), false, -1, dkT (shD h r), dkR (shD h r)) x) = -1 := fun x hx q => by
    by_cases ex : x = r
    · rw [show upf (shD h) r _ x = _ from if_pos ex]
    · rw [show upf (shD h) r _ x = shD h x from if_neg ex]; exact q
  have this : fusN (shZ h) (upf (shD h) r (dkL (shD h r), false, -1, dkT (shD h r), dkR (shD h r))) ≤ fusN (shZ h) (shD h) := sumN_mono _ (fun i hi => by
    show (if dkF (upf (shD h) r _ i) = -1 then 0 else 1) ≤ (if dkF (shD h i) = -1 then 0 else 1)
    by_cases q : dkF (shD h i) = -1
    · rw [if_pos (fd i hi q), if_pos q]; exact Nat.le_refl _
    · rw [if_neg q]; split <;> omega)
  have hD : ∀ x, x < shZ h → (dkL (upf (shD h) r (dkL (shD h r), false, -1, dkT (shD h r), dkR (shD h r)) x)).length ≤ shQ h ∧ dkOK (upf (shD h) r (dkL (shD h r), false, -1, dkT (shD h r), dkR (shD h r)) x) ∧ (dkU (upf (shD h) r (dkL (shD h r), false, -1, dkT (shD h r), dkR (shD h r)) x) = false → dkF (upf (shD h) r (dkL (shD h r), false, -1, dkT (shD h r), dkR (shD h r)) x) = -1) := fun x hx => by
    by_cases ex : x = r
    · rw [show upf (shD h) r _ x = _ from if_pos ex]; exact ⟨(b2 r hr).1, fun q => (by cases q), fun _ => rfl⟩
    · rw [show upf (shD h) r _ x = shD h x from if_neg ex]; exact b2 x hx
  have e : shLower h r = (if shL h = Int32.ofNat r ∨ shMost (shSetD h (upf (shD h) r (dkL (shD h r), false, -1, dkT (shD h r), dkR (shD h r)))) = false then shLose (shSetD h (upf (shD h) r (dkL (shD h r), false, -1, dkT (shD h r), dkR (shD h r)))) else shSetD h (upf (shD h) r (dkL (shD h r), false, -1, dkT (shD h r), dkR (shD h r)))) := rfl
  rw [e] at R2 ⊢
  split at R2
  · next z =>
    rw [if_pos z]
    refine ⟨⟨R2, losF_Z s rfl rfl rfl, ⟨b1, hD, b3⟩, losF_T (h := h) rfl rfl⟩, ?_⟩
    unfold shY at hK ⊢
    show shQ h + 2 * fusN (shZ h) (upf (shD h) r (dkL (shD h r), false, -1, dkT (shD h r), dkR (shD h r))) + (if (-1 : Int32) = -1 then 1 else 0) + leaN (shN h) (losF (shN h) (shF h)) ≤ _
    rw [leaN_losF, if_pos rfl]
    omega
  · next z =>
    rw [if_neg z]
    refine ⟨⟨R2, s, ⟨b1, hD, b3⟩, t⟩, ?_⟩
    unfold shY at hK ⊢
    show shQ h + 2 * fusN (shZ h) (upf (shD h) r (dkL (shD h r), false, -1, dkT (shD h r), dkR (shD h r))) + (if shL h = -1 then 1 else 0) + leaN (shN h) (shF h) ≤ _
    omega
theorem rplc_some {W : Wld} {s r : Int32} {sn rn : Nat} (h : rplc W s r = some (sn, rn)) (hZ : ∀ x, x < 4 → shZ (W x) ≤ 5) : sn < 4 ∧ rn < shZ (W sn) ∧ s = nI sn ∧ r = nI rn ∧ ¬ (s < 0 ∨ (4 : Int32) ≤ s) ∧ ¬ (r < 0 ∨ nI (shZ (W sn)) ≤ r) := by
  unfold rplc at h
  split at h
  · cases h
  · next c =>
    obtain ⟨a, a1, rfl⟩ := zi_of (fun z => c (Or.inl z))
    obtain ⟨b, b1, rfl⟩ := zi_of (fun z => c (Or.inr (Or.inr (Or.inl z))))
    rw [zi_nat a1] at h c
    rw [zi_nat b1] at h
    have h := Option.some.inj h
    have h1 : a = sn := congrArg Prod.fst h
    have h2 : b = rn := congrArg Prod.snd h
    rw [h1] at a1 c ⊢
    rw [h2] at b1 c ⊢
    have c1 : sn < 4 := by
      have : ¬ nI 4 ≤ nI sn := fun z => c (Or.inr (Or.inl z))
      rw [zi_le (by omega) a1] at this
      omega
    have z5 := hZ sn c1
    have c2 : rn < shZ (W sn) := by
      have : ¬ nI (shZ (W sn)) ≤ nI rn := fun z => c (Or.inr (Or.inr (Or.inr z)))
      rw [zi_le (by omega) b1] at this
      omega
    exact ⟨c1, c2, rfl, rfl, fun z => z.elim (fun z => c (Or.inl z)) (fun z => c (Or.inr (Or.inl z))), fun z => z.elim (fun z => c (Or.inr (Or.inr (Or.inl z)))) (fun z => c (Or.inr (Or.inr (Or.inr z))))⟩
theorem rplc_none {W : Wld} {s r : Int32} (h : rplc W s r = none) : (s < 0 ∨ (4 : Int32) ≤ s) ∨ (¬ (s < 0 ∨ (4 : Int32) ≤ s) ∧ (r < 0 ∨ nI (shZ (W s.toNatClampNeg)) ≤ r)) := by
  unfold rplc at h
  split at h
  · next c =>
    by_cases d : s < 0 ∨ (4 : Int32) ≤ s
    · exact Or.inl d
    · refine Or.inr ⟨d, ?_⟩
      rcases c with c | c | c | c
      · exact absurd (Or.inl c) d
      · exact absurd (Or.inr c) d
      · exact Or.inl c
      · exact Or.inr c
  · cases h
/-! REPLICAS, IN THE REFERENCE -/
theorem RW.Z {vs : Nat → List Prg} {now : Int32} {TX : List (Nat × Nat × Nat × Prg)} {K : Nat} {h : Hp} {W : Wld} (R : RW vs now TX K h W) (hK : K ≤ 1600) : ∀ x, x < 4 → shZ (W x) ≤ 5 := fun x hx => ((R.base hK).2.2 x hx).2.2.2.2.2
theorem w_isReplica {vs : Nat → List Prg} {now : Int32} {TX : List (Nat × Nat × Nat × Prg)} {K : Nat} {h : Hp} {W : Wld} (R : RW vs now TX K h W) (hK : K ≤ 1600) (s r : Int32) : f_X11_isReplica 616 s r h = some (if (rplc W s r).isSome = true then 1 else 0, h) := by
  obtain ⟨G, tb, bs⟩ := R.base hK
  have H := G.1
  by_cases cs : s < 0 ∨ (4 : Int32) ≤ s
  · have ei := w_no (h := h) cs
    have e : rplc W s r = none := by unfold rplc; rw [if_pos (by rcases cs with z | z; exact Or.inl z; exact Or.inr (Or.inl z))]
    rw [e]
    simp only [f_X11_isReplica, o10, o00, bh, isO, inR, ck_true, bind_some9, Nat.reduceLeDiff, Nat.reduceEqDiff, and_self, and_true, true_and, false_and, and_false, not_false_eq_true, not_true_eq_false, or_self, or_false, false_or, if_true, if_false, reduceIte, RF_o H, RF_1236 H, RO_644 H, RL_644 H, zR_pE, zT_pE, zL_pE, zn_pE, zE_pE, zI_pE, zR_pI, zT_pI, zL_pI, zn_pI, zE_pI, zI_pI, ei]
    rfl
  · have ei := w_yes (h := h) cs
    obtain ⟨sn, sn1, rfl⟩ := zi_of (fun z => cs (Or.inl z))
    have hs : sn < 4 := by
      have : ¬ nI 4 ≤ nI sn := fun z => cs (Or.inr z)
      rw [zi_le (by omega) sn1] at this
      omega
    obtain ⟨b1, b2, b3, b4, b5, b6⟩ := bs sn hs
    have nx : (nI sn).toNatClampNeg = sn := zi_nat (by omega)
    have gx : ¬ nI sn < 0 := zi_neg (by omega)
    have lx : ¬ 4 ≤ sn := by omega
    by_cases cr : r < 0 ∨ nI (shZ (W sn)) ≤ r
    · have ei2 := w_no (h := h) cr
      have e : rplc W (nI sn) r = none := by
        unfold rplc
        rw [nx, if_pos (Or.inr (Or.inr cr))]
      rw [e]
      simp only [f_X11_isReplica, o10, o00, bh, isO, inR, ck_true, bind_some9, Nat.reduceLeDiff, Nat.reduceEqDiff, and_self, and_true, true_and, false_and, and_false, not_false_eq_true, not_true_eq_false, or_self, or_false, false_or, if_true, if_false, reduceIte, RF_o H, RF_1236 H, RO_644 H, RL_644 H, zR_pE, zT_pE, zL_pE, zn_pE, zE_pE, zI_pE, zR_pI, zT_pI, zL_pI, zn_pI, zE_pI, zI_pI, ei, nx, gx, lx, b4, ei2]
      rfl
    · have ei2 := w_yes (h := h) cr
      have e : (rplc W (nI sn) r).isSome = true := by
        unfold rplc
        rw [nx, if_neg (by rintro (z | z | z | z); exact gx z; exact cs (Or.inr z); exact cr (Or.inl z); exact cr (Or.inr z))]
        rfl
      rw [e, if_pos rfl]
      simp only [f_X11_isReplica, o10, o00, bh, isO, inR, ck_true, bind_some9, Nat.reduceLeDiff, Nat.reduceEqDiff, and_self, and_true, true_and, false_and, and_false, not_false_eq_true, not_true_eq_false, or_self, or_false, false_or, if_true, if_false, reduceIte, RF_o H, RF_1236 H, RO_644 H, RL_644 H, zR_pE, zT_pE, zL_pE, zn_pE, zE_pE, zI_pE, zR_pI, zT_pI, zL_pI, zn_pI, zE_pI, zI_pI, ei, nx, gx, lx, b4, ei2]
theorem RW.disk {vs : Nat → List Prg} {now : Int32} {TX : List (Nat × Nat × Nat × Prg)} {K : Nat} {h : Hp} {W : Wld} (R : RW vs now TX K h W) {s r : Nat} (hs : s < 4) (hr : r < shZ (W s)) : (∃ I, dkAt h (totQ W) I (5 * s + r) (shD (W s) r)) ∧ dkOK (shD (W s) r) := by
  obtain ⟨C, ⟨-, ⟨hI, -⟩, I, EE, sd, -⟩, -⟩ := R s hs
  have os := othQ_add W hs
  rw [os] at sd
  have d := sd.2.2.1 r (by have := hI.1.1; omega)
  have e : shD (shV (W s)) r = shD (W s) r := if_pos hr
  rw [e] at d
  exact ⟨⟨I r, d⟩, (hI.2.2.1.2.1 r hr).2.1⟩
theorem w_replica {vs : Nat → List Prg} {c : Nat} {TX : List (Nat × Nat × Nat × Prg)} {K tk : Nat} {h : Hp} {W : Wld} (hK : K ≤ 1600) (R : RT vs c TX K tk h W) (s r q : Int32) : aft vs c TX K tk h W 0 (wdRepl W s r q) (f_X11_replica 616 s r q h) := by
  obtain ⟨R0, e0, f0⟩ := R.th (by omega) 0
  obtain ⟨G, tb, bs⟩ := R.1.base (by omega)
  have H := G.1
  have stay : ∀ r : Int32, aft vs c TX K tk h W 0 r (some (r, pI h 1200 616 0)) := fun r => ⟨_, rfl, e0, R0, f0⟩
  have eR := w_isReplica R0.1 hK s r
  unfold wdRepl
  cases er : rplc W s r with
  | none =>
    rw [er] at eR
    have eR : f_X11_isReplica 616 s r (pI h 1200 616 0) = some (0, pI h 1200 616 0) := eR
    simp only [f_X11_replica, o10, o00, bh, isO, inR, ck_true, bind_some9, Nat.reduceLeDiff, Nat.reduceEqDiff, and_self, and_true, true_and, false_and, and_false, not_false_eq_true, not_true_eq_false, or_self, or_false, false_or, if_true, if_false, reduceIte, RF_o H, RF_1231 H, RO_639 H, RL_639 H, RF_1232 H, RO_640 H, RL_640 H, RF_1234 H, RO_642 H, RL_642 H, RF_1235 H, RO_643 H, RL_643 H, zR_pE, zT_pE, zL_pE, zn_pE, zE_pE, zI_pE, zR_pI, zT_pI, zL_pI, zn_pI, zE_pI, zI_pI, eR]
    exact stay _
  | some sr =>
    obtain ⟨sn, rn⟩ := sr
    rw [er] at eR
    have eR : f_X11_isReplica 616 s r (pI h 1200 616 0) = some (1, pI h 1200 616 0) := eR
    obtain ⟨hs, hr, rfl, rfl, -, -⟩ := rplc_some er (R.1.Z hK)
    have z5 := R.1.Z hK sn hs
    obtain ⟨⟨I, dk⟩, -⟩ := R.1.disk hs hr
    obtain ⟨⟨u1, u2, u3, u4⟩, -⟩ := dk
    have nx : (nI (5 * sn + rn)).toNatClampNeg = 5 * sn + rn := zi_nat (by omega)
    have gx : ¬ nI (5 * sn + rn) < 0 := zi_neg (by omega)
    have lx : ¬ 20 ≤ 5 * sn + rn := by omega
    simp only []
    by_cases q0 : q = 0
    · rw [if_pos q0]
      have d0 := eq_true q0
      cases hu : dkU (shD (W sn) rn) with
      | true =>
        rw [hu, if_pos rfl] at u1
        simp only [f_X11_replica, o10, o00, bh, isO, inR, ck_true, bind_some9, Nat.reduceLeDiff, Nat.reduceEqDiff, and_self, and_true, true_and, false_and, and_false, not_false_eq_true, not_true_eq_false, or_self, or_false, false_or, if_true, if_false, reduceIte, RF_o H, RF_1231 H, RO_639 H, RL_639 H, RF_1232 H, RO_640 H, RL_640 H, RF_1234 H, RO_642 H, RL_642 H, RF_1235 H, RO_643 H, RL_643 H, zR_pE, zT_pE, zL_pE, zn_pE, zE_pE, zI_pE, zR_pI, zT_pI, zL_pI, zn_pI, zE_pI, zI_pI, eR, d0, zi_five, nx, gx, lx, u1]
        exact stay _
      | false =>
        rw [hu, if_neg (fun z => Bool.noConfusion z)] at u1
        simp only [f_X11_replica, o10, o00, bh, isO, inR, ck_true, bind_some9, Nat.reduceLeDiff, Nat.reduceEqDiff, and_self, and_true, true_and, false_and, and_false, not_false_eq_true, not_true_eq_false, or_self, or_false, false_or, if_true, if_false, reduceIte, RF_o H, RF_1231 H, RO_639 H, RL_639 H, RF_1232 H, RO_640 H, RL_640 H, RF_1234 H, RO_642 H, RL_642 H, RF_1235 H, RO_643 H, RL_643 H, zR_pE, zT_pE, zL_pE, zn_pE, zE_pE, zI_pE, zR_pI, zT_pI, zL_pI, zn_pI, zE_pI, zI_pI, eR, d0, zi_five, nx, gx, lx, u1]
        exact stay _
    · rw [if_neg q0]
      have d0 := eq_false q0
      by_cases q1 : q = 1
      · rw [if_pos q1]
        have d1 := eq_true q1
        simp only [f_X11_replica, o10, o00, bh, isO, inR, ck_true, bind_some9, Nat.reduceLeDiff, Nat.reduceEqDiff, and_self, and_true, true_and, false_and, and_false, not_false_eq_true, not_true_eq_false, or_self, or_false, false_or, if_true, if_false, reduceIte, RF_o H, RF_1231 H, RO_639 H, RL_639 H, RF_1232 H, RO_640 H, RL_640 H, RF_1234 H, RO_642 H, RL_642 H, RF_1235 H, RO_643 H, RL_643 H, zR_pE, zT_pE, zL_pE, zn_pE, zE_pE, zI_pE, zR_pI, zT_pI, zL_pI, zn_pI, zE_pI, zI_pI, eR, d0, d1, zi_five, nx, gx, lx, u3]
        exact stay _
      · rw [if_neg q1]
        have d1 := eq_false q1
        by_cases q2 : q = 2
        · rw [if_pos q2]
          have d2 := eq_true q2
          simp only [f_X11_replica, o10, o00, bh, isO, inR, ck_true, bind_some9, Nat.reduceLeDiff, Nat.reduceEqDiff, and_self, and_true, true_and, false_and, and_false, not_false_eq_true, not_true_eq_false, or_self, or_false, false_or, if_true, if_false, reduceIte, RF_o H, RF_1231 H, RO_639 H, RL_639 H, RF_1232 H, RO_640 H, RL_640 H, RF_1234 H, RO_642 H, RL_642 H, RF_1235 H, RO_643 H, RL_643 H, zR_pE, zT_pE, zL_pE, zn_pE, zE_pE, zI_pE, zR_pI, zT_pI, zL_pI, zn_pI, zE_pI, zI_pI, eR, d0, d1, d2, zi_five, nx, gx, lx, u4]
          exact stay _
        · rw [if_neg q2]
          have d2 := eq_false q2
          by_cases q3 : q = 3
          · rw [if_pos q3]
            have d3 := eq_true q3
            simp only [f_X11_replica, o10, o00, bh, isO, inR, ck_true, bind_some9, Nat.reduceLeDiff, Nat.reduceEqDiff, and_self, and_true, true_and, false_and, and_false, not_false_eq_true, not_true_eq_false, or_self, or_false, false_or, if_true, if_false, reduceIte, RF_o H, RF_1231 H, RO_639 H, RL_639 H, RF_1232 H, RO_640 H, RL_640 H, RF_1234 H, RO_642 H, RL_642 H, RF_1235 H, RO_643 H, RL_643 H, zR_pE, zT_pE, zL_pE, zn_pE, zE_pE, zI_pE, zR_pI, zT_pI, zL_pI, zn_pI, zE_pI, zI_pI, eR, d0, d1, d2, d3, zi_five, nx, gx, lx, u2]
            exact stay _
          · rw [if_neg q3]
            have d3 := eq_false q3
            simp only [f_X11_replica, o10, o00, bh, isO, inR, ck_true, bind_some9, Nat.reduceLeDiff, Nat.reduceEqDiff, and_self, and_true, true_and, false_and, and_false, not_false_eq_true, not_true_eq_false, or_self, or_false, false_or, if_true, if_false, reduceIte, RF_o H, RF_1231 H, RO_639 H, RL_639 H, RF_1232 H, RO_640 H, RL_640 H, RF_1234 H, RO_642 H, RL_642 H, RF_1235 H, RO_643 H, RL_643 H, zR_pE, zT_pE, zL_pE, zn_pE, zE_pE, zI_pE, zR_pI, zT_pI, zL_pI, zn_pI, zE_pI, zI_pI, eR, d0, d1, d2, d3]
            exact stay _
/-- the disks of a shard have changed -/
theorem RS_disks {vs : Nat → List Prg} {now : Int32} {TX : List (Nat × Nat × Nat × Prg)} {B K K1 s : Nat} {h h1 : Hp} {q u : Shd} {C C1 : List Rec} (hs : s < 4) (R : RS vs now TX B K s h q C) (f : frx (dsS s) h h1) (hK : K1 ≤ 2000) (hI : ShI vs u C1) (hY : shY u ≤ lgW C1 + K1) {I1 : Nat → List Nat} (sd : sdAt h1 (B + shQ q) I1 s (shV u)) (e1 : shN u = shN q) (e2 : shF u = shF q) (e3 : shO u = shO q) (e4 : shQ u = shQ q) : RS vs now TX B K1 s h1 u C1 := by
  obtain ⟨⟨g1, g2, g3, g4, ⟨g5, g6⟩, g7⟩, -, I, EE, -, mn, fw, ob⟩ := R
  have hM := mn.1.2
  have no : ∀ a j, (a < 638 ∨ 643 < a) → ¬ dsS s a j := fun a j ha z => by
    obtain ⟨r, -, z⟩ := z
    unfold dkS at z
    omega
  refine ⟨⟨g1.on f, ?_, ?_, g4.on f (fun a j z1 z2 => no a j (by omega)), ⟨g5, hK⟩, g7⟩, ⟨hI, hY⟩, I1, EE, by rw [e4]; exact sd, ?_, ?_, ?_⟩
  · rw [f.2.2.1 1224 (no _ _ (by omega)), e4]; exact g2
  · rw [f.2.2.1 1201 (no _ _ (by omega))]; exact g3
  · rw [e1]; exact mn.on f (no _ _ (by omega)) (fun n _ => no _ _ (by omega))
  · rw [e1, e2, e4]
    exact fw.on hM f (fun a i _ => by
      by_cases ca : a < 633 ∨ 637 < a
      · exact Or.inr ca
      · exact Or.inl (no _ _ (by omega))) (fun a j g _ => no _ _ (by omega)) (fun a j g => no _ _ (by omega))
  · rw [e3]; exact ob.on f (no _ _ (by omega)) (fun a k g _ => no _ _ (by omega))
theorem dsS_fp {s N : Nat} : ∀ a j, dsS s a j → fpS s N a j := fun a j z => Or.inl (dsS_sh s a j z)
/-- one disk of a shard has changed -/
theorem sdAt_one {h h1 : Hp} {N s r : Nat} {I : Nat → List Nat} {J : List Nat} {q : Shd} {d1 : Dk} (sd : sdAt h N I s (shV q)) (hr : r < shZ q) (f : frx (dkS (5 * s + r)) h h1) (hd : dkAt h1 N J (5 * s + r) d1) (hu : uqI (upf I r J) (upf (shD (shV q)) r d1)) (ok : dkOK d1) : sdAt h1 N (upf I r J) s (shV (shSetD q (upf (shD q) r d1))) := by
  obtain ⟨⟨a1, a2, a3⟩, ⟨b1, b2, b3⟩, ds, uq, oks⟩ := sd
  have b2' : shZ q ≤ 5 := b2
  have eD : shD (shV (shSetD q (upf (shD q) r d1))) = upf (shD (shV q)) r d1 := by
    funext x
    show (if x < shZ q then upf (shD q) r d1 x else _) = (if x = r then d1 else if x < shZ q then shD q x else _)
    by_cases c : x = r
    · rw [if_pos c, if_pos (by omega)]; exact if_pos c
    · rw [if_neg c]
      by_cases c2 : x < shZ q
      · rw [if_pos c2, if_pos c2]; exact if_neg c
      · rw [if_neg c2, if_neg c2]
  have no : ∀ a, (a = 644 ∨ a = 645 ∨ a = 646) → zE h1 a s = zE h a s := fun a ha => f.2.2.2 a s (fun z => by unfold dkS at z; omega)
  unfold sdAt
  rw [eD]
  refine ⟨⟨by rw [no 644 (by omega)]; exact a1, by rw [no 645 (by omega)]; exact a2, by rw [no 646 (by omega)]; exact a3⟩, ⟨b1, b2, b3⟩, ds.one (by omega) f ?_ (fun x hx => if_neg hx) (fun x hx => if_neg hx), hu, fun x hx => ?_⟩
  · rw [show upf I r J r = J from if_pos rfl, show upf (shD (shV q)) r d1 r = d1 from if_pos rfl]; exact hd
  · show dkOK (if x = r then d1 else shD (shV q) x)
    split
    · exact ok
    · exact oks x hx
theorem uqI_same {I : Nat → List Nat} {D : Nat → Dk} {r : Nat} {d1 : Dk} (h : uqI I D) (e : dkL d1 = dkL (D r)) : uqI (upf I r (I r)) (upf D r d1) := by
  rw [upf_same]
  intro x y hx hy
  have eL : ∀ z, dkL (upf D r d1 z) = dkL (D z) := fun z => by
    by_cases c : z = r
    · rw [show upf D r d1 z = d1 from if_pos c, e, c]
    · rw [show upf D r d1 z = D z from if_neg c]
  rw [eL, eL]
  exact h x y hx hy
theorem w_fuse {vs : Nat → List Prg} {c : Nat} {TX : List (Nat × Nat × Nat × Prg)} {K tk : Nat} {h : Hp} {W : Wld} (hK : K + 2 ≤ 1600) (R : RT vs c TX K tk h W) (s r b : Int32) : aftB vs c TX (K + 2) tk h (wdFuse W s r b) (f_X11_fuse 616 s r b h) := by
  obtain ⟨R0, e0, f0⟩ := R.th (by omega) 0
  obtain ⟨G, tb, bs⟩ := R.1.base (by omega)
  have H := G.1
  have stay : ∀ r : Int32, aft vs c TX (K + 2) tk h W 0 r (some (r, pI h 1200 616 0)) := fun r => ⟨_, rfl, e0, R0.moreK (by omega) hK, f0⟩
  have eR := w_isReplica R0.1 (by omega) s r
  unfold wdFuse
  cases er : rplc W s r with
  | none =>
    rw [er] at eR
    have eR : f_X11_isReplica 616 s r (pI h 1200 616 0) = some (0, pI h 1200 616 0) := eR
    simp only [f_X11_fuse, o10, o00, bh, isO, inR, ck_true, bind_some9, Nat.reduceLeDiff, Nat.reduceEqDiff, and_self, and_true, true_and, false_and, and_false, not_false_eq_true, not_true_eq_false, or_self, or_false, false_or, if_true, if_false, reduceIte, RF_o H, RF_1234 H, RO_642 H, RL_642 H, RF_1235 H, RO_643 H, RL_643 H, zR_pE, zT_pE, zL_pE, zn_pE, zE_pE, zI_pE, zR_pI, zT_pI, zL_pI, zn_pI, zE_pI, zI_pI, eR]
    exact aftB_f (stay _)
  | some sr =>
    obtain ⟨sn, rn⟩ := sr
    rw [er] at eR
    have eR : f_X11_isReplica 616 s r (pI h 1200 616 0) = some (1, pI h 1200 616 0) := eR
    obtain ⟨hs, hr, rfl, rfl, -, -⟩ := rplc_some er (R.1.Z (by omega))
    have z5 := R.1.Z (by omega) sn hs
    obtain ⟨⟨I, dk⟩, dok⟩ := R.1.disk hs hr
    obtain ⟨⟨u1, u2, u3, u4⟩, -⟩ := dk
    have nx : (nI (5 * sn + rn)).toNatClampNeg = 5 * sn + rn := zi_nat (by omega)
    have gx : ¬ nI (5 * sn + rn) < 0 := zi_neg (by omega)
    have lx : ¬ 20 ≤ 5 * sn + rn := by omega
    simp only []
    cases hu : dkU (shD (W sn) rn) with
    | false =>
      rw [hu, if_neg (fun z => Bool.noConfusion z)] at u1
      rw [if_pos (Or.inl rfl)]
      simp only [f_X11_fuse, o10, o00, bh, isO, inR, ck_true, bind_some9, Nat.reduceLeDiff, Nat.reduceEqDiff, and_self, and_true, true_and, false_and, and_false, not_false_eq_true, not_true_eq_false, or_self, or_false, false_or, if_true, if_false, reduceIte, RF_o H, RF_1234 H, RO_642 H, RL_642 H, RF_1235 H, RO_643 H, RL_643 H, zR_pE, zT_pE, zL_pE, zn_pE, zE_pE, zI_pE, zR_pI, zT_pI, zL_pI, zn_pI, zE_pI, zI_pI, eR, zi_five, nx, gx, lx, u1]
      exact aftB_f (stay _)
    | true =>
      rw [hu, if_pos rfl] at u1
      by_cases cb : b < 0
      · rw [if_pos (Or.inr (Or.inl cb))]
        simp only [f_X11_fuse, o10, o00, bh, isO, inR, ck_true, bind_some9, Nat.reduceLeDiff, Nat.reduceEqDiff, and_self, and_true, true_and, false_and, and_false, not_false_eq_true, not_true_eq_false, or_self, or_false, false_or, if_true, if_false, reduceIte, RF_o H, RF_1234 H, RO_642 H, RL_642 H, RF_1235 H, RO_643 H, RL_643 H, zR_pE, zT_pE, zL_pE, zn_pE, zE_pE, zI_pE, zR_pI, zT_pI, zL_pI, zn_pI, zE_pI, zI_pI, eR, zi_five, nx, gx, lx, u1, cb]
        exact aftB_f (stay _)
      · by_cases cc : 100000 < b
        · rw [if_pos (Or.inr (Or.inr cc))]
          have dc := eq_false (Int32.not_le.mpr cc)
          simp only [f_X11_fuse, o10, o00, bh, isO, inR, ck_true, bind_some9, Nat.reduceLeDiff, Nat.reduceEqDiff, and_self, and_true, true_and, false_and, and_false, not_false_eq_true, not_true_eq_false, or_self, or_false, false_or, if_true, if_false, reduceIte, RF_o H, RF_1234 H, RO_642 H, RL_642 H, RF_1235 H, RO_643 H, RL_643 H, zR_pE, zT_pE, zL_pE, zn_pE, zE_pE, zI_pE, zR_pI, zT_pI, zL_pI, zn_pI, zE_pI, zI_pI, eR, zi_five, nx, gx, lx, u1, cb, dc]
          exact aftB_f (stay _)
        · rw [if_neg (by rintro (z | z | z); cases z; exact cb z; exact cc z)]
          have dc := eq_true (Int32.not_lt.mp cc)
          have hh : f_X11_fuse 616 (nI sn) (nI rn) b h = some (1, pE (pI h 1200 616 0) 643 (5 * sn + rn) b) := by
            simp only [f_X11_fuse, o10, o00, bh, isO, inR, ck_true, bind_some9, Nat.reduceLeDiff, Nat.reduceEqDiff, and_self, and_true, true_and, false_and, and_false, not_false_eq_true, not_true_eq_false, or_self, or_false, false_or, if_true, if_false, reduceIte, RF_o H, RF_1234 H, RO_642 H, RL_642 H, RF_1235 H, RO_643 H, RL_643 H, zR_pE, zT_pE, zL_pE, zn_pE, zE_pE, zI_pE, zR_pI, zT_pI, zL_pI, zn_pI, zE_pI, zI_pI, eR, zi_five, nx, gx, lx, u1, cb, dc]
          rw [hh]
          have fd : frx (dkS (5 * sn + rn)) (pI h 1200 616 0) (pE (pI h 1200 616 0) 643 (5 * sn + rn) b) := frx_pE (Or.inl ⟨by omega, rfl⟩)
          have fs : frx (dsS sn) (pI h 1200 616 0) (pE (pI h 1200 616 0) 643 (5 * sn + rn) b) := fd.mono (fun a j z => ⟨rn, by omega, z⟩)
          obtain ⟨C, RC, RC2, RC3⟩ := R0.1 sn hs
          obtain ⟨fS, fY⟩ := fuse_S ⟨RC.2.1.1, RC2, RC3⟩ hr hu cb
          obtain ⟨-, ⟨hI, hY⟩, I9, EE, sd, -⟩ := id RC
          have ev : shD (shV (W sn)) rn = shD (W sn) rn := if_pos hr
          have d0 := sd.2.2.1 rn (by omega)
          rw [ev] at d0
          have dkn : dkAt (pE (pI h 1200 616 0) 643 (5 * sn + rn) b) (othQ W sn + shQ (W sn)) (I9 rn) (5 * sn + rn) (dkL (shD (W sn) rn), true, b, dkT (shD (W sn) rn), dkR (shD (W sn) rn)) := by
            obtain ⟨⟨v1, v2, v3, v4⟩, v5, v6, v7, v8⟩ := d0
            have oth : ∀ a j, a ≠ 643 → zE (pE (pI h 1200 616 0) 643 (5 * sn + rn) b) a j = zE (pI h 1200 616 0) a j := fun a j ha => by rw [zE_pE, if_neg (fun z => ha z.1)]
            have rco : ∀ i rr, idAt (pI h 1200 616 0) (othQ W sn + shQ (W sn)) i rr → idAt (pE (pI h 1200 616 0) 643 (5 * sn + rn) b) (othQ W sn + shQ (W sn)) i rr := fun i rr z => ⟨z.1, z.2.on fd (fun a => by unfold dkS; omega)⟩
            refine ⟨⟨?_, by rw [zE_pE, if_pos ⟨rfl, rfl⟩], by rw [oth _ _ (by omega)]; exact v3, by rw [oth _ _ (by omega)]; exact v4⟩, v5, fun k i z => by rw [oth _ _ (by omega)]; exact v6 k i z, fun k i rr z1 z2 => rco i rr (v7 k i rr z1 z2), fun z => ?_⟩
            · rw [oth _ _ (by omega), v1, hu]
            · obtain ⟨i, i1, i2⟩ := v8 z
              exact ⟨i, by rw [oth _ _ (by omega)]; exact i1, rco i _ i2⟩
          have sd1 := sdAt_one sd hr fd dkn (uqI_same sd.2.2.2.1 (by rw [ev])) (fun _ => ⟨(dok hu).1, Or.inr cb⟩)
          have ru := RS_disks (K1 := K + 2) hs RC fs (by omega) fS.1 (by omega) sd1 rfl rfl rfl rfl
          have RN := (R0.1.moreK (K1 := K + 2) (by omega) hK).act hK hs (fs.mono dsS_fp) ru fS.2.1 fS.2.2 (Nat.le_refl _)
          have ft : frx (wdF (totQ W)) (pI h 1200 616 0) (pE (pI h 1200 616 0) 643 (5 * sn + rn) b) := (fs.mono dsS_fp).mono (fpS_wd hs)
          exact aftB_t (aft_act hK (R0.moreK (by omega) hK) e0 f0 RN ft (WdT_act R0.2.2.1 (fun n hn => Or.inr ⟨hn, rfl⟩)))
/-! NEW DISKS, IN THE REFERENCE -/
theorem an01 : ((0 : Int32) &&& 1) = 0 := by decide
theorem an11 : ((1 : Int32) &&& 1) = 1 := by decide
def frS (s : Nat) (a i : Nat) : Prop := (a = 642 ∨ a = 643 ∨ a = 640) ∧ i / 5 = s
theorem w_fresh_18 {s n : Nat} (hs : s < 4) (hn : n ≤ 5) : ∀ (m j fuel : Nat) (h : Hp), RF h → j + m = 5 → m < fuel → ∃ h1, f_X11_fresh_18 fuel 616 (nI s) (nI n) (nI (5 * s + j)) h = some h1 ∧ frx (frS s) h h1 ∧ ∀ r, r < 5 → (r < j → zE h1 642 (5 * s + r) = zE h 642 (5 * s + r) ∧ zE h1 643 (5 * s + r) = zE h 643 (5 * s + r) ∧ zE h1 640 (5 * s + r) = zE h 640 (5 * s + r)) ∧ (j ≤ r → zE h1 642 (5 * s + r) = (if r < n then 1 else 0) ∧ zE h1 643 (5 * s + r) = -1 ∧ zE h1 640 (5 * s + r) = 0)
  | m, j, 0, h, _, _, hf => absurd hf (Nat.not_lt_zero _)
  | 0, j, fuel + 1, h, H, hj, hf => by
    have e5 : (5 : Int32) * nI s + 5 = nI (5 * s + 5) := zi_five s 5
    have c : nI (5 * s + 5) ≤ nI (5 * s + j) := (zi_le (by omega) (by omega)).mpr (by omega)
    refine ⟨h, ?_, frx.rf h, fun r hr => ⟨fun _ => ⟨rfl, rfl, rfl⟩, fun z => by omega⟩⟩
    unfold f_X11_fresh_18
    rw [e5, if_pos c]
  | m + 1, j, fuel + 1, h, H, hj, hf => by
    have e5 : (5 : Int32) * nI s + 5 = nI (5 * s + 5) := zi_five s 5
    have c : ¬ nI (5 * s + 5) ≤ nI (5 * s + j) := zi_le0 (by omega) (by omega) (by omega)
    have nj : (nI (5 * s + j)).toNatClampNeg = 5 * s + j := zi_nat (by omega)
    have gj : ¬ nI (5 * s + j) < 0 := zi_neg (by omega)
    have lj : ¬ 20 ≤ 5 * s + j := by omega
    have q : nI (5 * s + n) ≤ nI (5 * s + j) ↔ 5 * s + n ≤ 5 * s + j := zi_le (by omega) (by omega)
    generalize hv : (if j < n then (1 : Int32) else 0) = v
    have f1 : frx (frS s) h (pE (pE (pE h 642 (5 * s + j) v) 643 (5 * s + j) (-1)) 640 (5 * s + j) 0) := ((frx_pE ⟨by omega, by omega⟩).trans (frx_pE ⟨by omega, by omega⟩)).trans (frx_pE ⟨by omega, by omega⟩)
    have vals : ∀ a i, zE (pE (pE (pE h 642 (5 * s + j) v) 643 (5 * s + j) (-1)) 640 (5 * s + j) 0) a i = if a = 640 ∧ i = 5 * s + j then 0 else if a = 643 ∧ i = 5 * s + j then -1 else if a = 642 ∧ i = 5 * s + j then v else zE h a i := fun a i => by rw [zE_pE, zE_pE, zE_pE]
    have step : f_X11_fresh_18 (fuel + 1) 616 (nI s) (nI n) (nI (5 * s + j)) h = f_X11_fresh_18 fuel 616 (nI s) (nI n) (nI (5 * s + (j + 1))) (pE (pE (pE h 642 (5 * s + j) v) 643 (5 * s + j) (-1)) 640 (5 * s + j) 0) := by
      by_cases cj : j < n
      · rw [if_pos cj] at hv
        subst hv
        have d := eq_false (fun z => absurd (q.mp z) (by omega))
        simp only [f_X11_fresh_18, f_X11_fresh_46, o10, o00, bh, isO, inR, ck_true, bind_some9, Nat.reduceLeDiff, Nat.reduceEqDiff, and_self, and_true, true_and, false_and, and_false, not_false_eq_true, not_true_eq_false, or_self, or_false, false_or, if_true, if_false, reduceIte, RF_o H, RF_1232 H, RO_640 H, RL_640 H, RF_1234 H, RO_642 H, RL_642 H, RF_1235 H, RO_643 H, RL_643 H, zR_pE, zT_pE, zL_pE, zn_pE, zE_pE, zI_pE, zR_pI, zT_pI, zL_pI, zn_pI, zE_pI, zI_pI, e5, c, zi_five, d, nj, gj, lj, an11, zi_one]
        rfl
      · rw [if_neg cj] at hv
        subst hv
        have d := eq_true (q.mpr (by omega))
        simp only [f_X11_fresh_18, f_X11_fresh_46, o10, o00, bh, isO, inR, ck_true, bind_some9, Nat.reduceLeDiff, Nat.reduceEqDiff, and_self, and_true, true_and, false_and, and_false, not_false_eq_true, not_true_eq_false, or_self, or_false, false_or, if_true, if_false, reduceIte, RF_o H, RF_1232 H, RO_640 H, RL_640 H, RF_1234 H, RO_642 H, RL_642 H, RF_1235 H, RO_643 H, RL_643 H, zR_pE, zT_pE, zL_pE, zn_pE, zE_pE, zI_pE, zR_pI, zT_pI, zL_pI, zn_pI, zE_pI, zI_pI, e5, c, zi_five, d, nj, gj, lj, an01, zi_one]
        rfl
    generalize pE (pE (pE h 642 (5 * s + j) v) 643 (5 * s + j) (-1)) 640 (5 * s + j) 0 = g at *
    obtain ⟨h1, a1, a2, a3⟩ := w_fresh_18 hs hn m (j + 1) fuel g (H.on f1) (by omega) (by omega)
    refine ⟨h1, by rw [step]; exact a1, f1.trans a2, fun r hr => ⟨fun z => ?_, fun z => ?_⟩⟩
    · obtain ⟨y1, y2, y3⟩ := (a3 r hr).1 (by omega)
      have oth : ∀ a, zE g a (5 * s + r) = zE h a (5 * s + r) := fun a => by rw [vals, if_neg (by omega), if_neg (by omega), if_neg (by omega)]
      rw [y1, y2, y3]
      exact ⟨oth _, oth _, oth _⟩
    · by_cases cr : r = j
      · obtain ⟨y1, y2, y3⟩ := (a3 r hr).1 (by omega)
        rw [y1, y2, y3, cr]
        exact ⟨by rw [vals, if_neg (by omega), if_neg (by omega), if_pos ⟨rfl, rfl⟩]; exact hv.symm, by rw [vals, if_neg (by omega), if_pos ⟨rfl, rfl⟩], by rw [vals, if_pos ⟨rfl, rfl⟩]⟩
      · exact (a3 r hr).2 (by omega)
theorem w_reps_yes {s n : Nat} (hs : s < 4) {h : Hp} (H : RF h) (hz : ∀ r, r < 5 → zE h 639 (5 * s + r) = 0) {h1 : Hp} (e1 : f_X11_fresh 616 (nI s) (nI n) h = some h1) : ∀ (m j fuel : Nat), j + m = 5 → m < fuel → f_X11_replicas_38 fuel 616 (nI s) (nI n) (nI (5 * s + j)) h = some (1, h1)
  | m, j, 0, _, hf => absurd hf (Nat.not_lt_zero _)
  | 0, j, fuel + 1, hj, hf => by
    have e5 : (5 : Int32) * nI s + 5 = nI (5 * s + 5) := zi_five s 5
    have c : nI (5 * s + 5) ≤ nI (5 * s + j) := (zi_le (by omega) (by omega)).mpr (by omega)
    simp only [f_X11_replicas_38, o10, o00, bh, isO, inR, ck_true, bind_some9, Nat.reduceLeDiff, Nat.reduceEqDiff, and_self, and_true, true_and, false_and, and_false, not_false_eq_true, not_true_eq_false, or_self, or_false, false_or, if_true, if_false, reduceIte, RF_o H, RF_1231 H, RO_639 H, RL_639 H, zR_pE, zT_pE, zL_pE, zn_pE, zE_pE, zI_pE, zR_pI, zT_pI, zL_pI, zn_pI, zE_pI, zI_pI, e5, c, e1]
  | m + 1, j, fuel + 1, hj, hf => by
    have e5 : (5 : Int32) * nI s + 5 = nI (5 * s + 5) := zi_five s 5
    have c : ¬ nI (5 * s + 5) ≤ nI (5 * s + j) := zi_le0 (by omega) (by omega) (by omega)
    have nj : (nI (5 * s + j)).toNatClampNeg = 5 * s + j := zi_nat (by omega)
    have gj : ¬ nI (5 * s + j) < 0 := zi_neg (by omega)
    have lj : ¬ 20 ≤ 5 * s + j := by omega
    have ih := w_reps_yes hs H hz e1 m (j + 1) fuel (by omega) (by omega)
    have hz9 := hz j (by omega)
    rw [← ih]
    simp only [f_X11_replicas_38, o10, o00, bh, isO, inR, ck_true, bind_some9, Nat.reduceLeDiff, Nat.reduceEqDiff, and_self, and_true, true_and, false_and, and_false, not_false_eq_true, not_true_eq_false, or_self, or_false, false_or, if_true, if_false, reduceIte, RF_o H, RF_1231 H, RO_639 H, RL_639 H, zR_pE, zT_pE, zL_pE, zn_pE, zE_pE, zI_pE, zR_pI, zT_pI, zL_pI, zn_pI, zE_pI, zI_pI, e5, c, nj, gj, lj, hz9, le00, zi_one]
    rfl
theorem w_reps_no {s n : Nat} (hs : s < 4) {h : Hp} (H : RF h) {r : Nat} (hr : r < 5) (hz : ¬ zE h 639 (5 * s + r) ≤ 0) : ∀ (m j fuel : Nat), j + m = 5 → m < fuel → j ≤ r → f_X11_replicas_38 fuel 616 (nI s) (nI n) (nI (5 * s + j)) h = some (0, h)
  | m, j, 0, _, hf, _ => absurd hf (Nat.not_lt_zero _)
  | 0, j, fuel + 1, hj, hf, hjr => by omega
  | m + 1, j, fuel + 1, hj, hf, hjr => by
    have e5 : (5 : Int32) * nI s + 5 = nI (5 * s + 5) := zi_five s 5
    have c : ¬ nI (5 * s + 5) ≤ nI (5 * s + j) := zi_le0 (by omega) (by omega) (by omega)
    have nj : (nI (5 * s + j)).toNatClampNeg = 5 * s + j := zi_nat (by omega)
    have gj : ¬ nI (5 * s + j) < 0 := zi_neg (by omega)
    have lj : ¬ 20 ≤ 5 * s + j := by omega
    by_cases cj : zE h 639 (5 * s + j) ≤ 0
    · have ne : j ≠ r := fun z => hz (by rw [← z]; exact cj)
      have ih := w_reps_no (n := n) hs H hr hz m (j + 1) fuel (by omega) (by omega) (by omega)
      rw [← ih]
      simp only [f_X11_replicas_38, o10, o00, bh, isO, inR, ck_true, bind_some9, Nat.reduceLeDiff, Nat.reduceEqDiff, and_self, and_true, true_and, false_and, and_false, not_false_eq_true, not_true_eq_false, or_self, or_false, false_or, if_true, if_false, reduceIte, RF_o H, RF_1231 H, RO_639 H, RL_639 H, zR_pE, zT_pE, zL_pE, zn_pE, zE_pE, zI_pE, zR_pI, zT_pI, zL_pI, zn_pI, zE_pI, zI_pI, e5, c, nj, gj, lj, cj, zi_one]
      rfl
    · simp only [f_X11_replicas_38, o10, o00, bh, isO, inR, ck_true, bind_some9, Nat.reduceLeDiff, Nat.reduceEqDiff, and_self, and_true, true_and, false_and, and_false, not_false_eq_true, not_true_eq_false, or_self, or_false, false_or, if_true, if_false, reduceIte, RF_o H, RF_1231 H, RO_639 H, RL_639 H, zR_pE, zT_pE, zL_pE, zn_pE, zE_pE, zI_pE, zR_pI, zT_pI, zL_pI, zn_pI, zE_pI, zI_pI, e5, c, nj, gj, lj, cj]
theorem w_replicas {vs : Nat → List Prg} {c : Nat} {TX : List (Nat × Nat × Nat × Prg)} {K tk : Nat} {h : Hp} {W : Wld} (hK : K ≤ 1600) (R : RT vs c TX K tk h W) (s n : Int32) : aftB vs c TX K tk h (wdReps W s n) (f_X11_replicas 616 s n h) := by
  obtain ⟨R0, e0, f0⟩ := R.th (by omega) 0
  obtain ⟨G, tb, bs⟩ := R.1.base (by omega)
  have H := G.1
  have stay : ∀ r : Int32, aft vs c TX K tk h W 0 r (some (r, pI h 1200 616 0)) := fun r => ⟨_, rfl, e0, R0, f0⟩
  unfold wdReps
  by_cases cs : s < 0 ∨ (4 : Int32) ≤ s
  · have ei := w_no (h := pI h 1200 616 0) cs
    rw [if_pos (by rcases cs with z | z; exact Or.inl z; exact Or.inr (Or.inl z))]
    simp only [f_X11_replicas, o10, o00, bh, isO, inR, ck_true, bind_some9, Nat.reduceLeDiff, Nat.reduceEqDiff, and_self, and_true, true_and, false_and, and_false, not_false_eq_true, not_true_eq_false, or_self, or_false, false_or, if_true, if_false, reduceIte, RF_o H, RF_1238 H, RO_646 H, RL_646 H, zR_pE, zT_pE, zL_pE, zn_pE, zE_pE, zI_pE, zR_pI, zT_pI, zL_pI, zn_pI, zE_pI, zI_pI, ei]
    exact aftB_f (stay _)
  · have ei := w_yes (h := pI h 1200 616 0) cs
    by_cases c3 : n < 3
    · rw [if_pos (Or.inr (Or.inr (Or.inl c3)))]
      simp only [f_X11_replicas, o10, o00, bh, isO, inR, ck_true, bind_some9, Nat.reduceLeDiff, Nat.reduceEqDiff, and_self, and_true, true_and, false_and, and_false, not_false_eq_true, not_true_eq_false, or_self, or_false, false_or, if_true, if_false, reduceIte, RF_o H, RF_1238 H, RO_646 H, RL_646 H, zR_pE, zT_pE, zL_pE, zn_pE, zE_pE, zI_pE, zR_pI, zT_pI, zL_pI, zn_pI, zE_pI, zI_pI, ei, c3]
      exact aftB_f (stay _)
    · by_cases c5 : 5 < n
      · rw [if_pos (Or.inr (Or.inr (Or.inr c5)))]
        simp only [f_X11_replicas, o10, o00, bh, isO, inR, ck_true, bind_some9, Nat.reduceLeDiff, Nat.reduceEqDiff, and_self, and_true, true_and, false_and, and_false, not_false_eq_true, not_true_eq_false, or_self, or_false, false_or, if_true, if_false, reduceIte, RF_o H, RF_1238 H, RO_646 H, RL_646 H, zR_pE, zT_pE, zL_pE, zn_pE, zE_pE, zI_pE, zR_pI, zT_pI, zL_pI, zn_pI, zE_pI, zI_pI, ei, c3, c5]
        exact aftB_f (stay _)
      · rw [if_neg (by rintro (z | z | z | z); exact cs (Or.inl z); exact cs (Or.inr z); exact c3 z; exact c5 z)]
        obtain ⟨sn, sn1, rfl⟩ := zi_of (fun z => cs (Or.inl z))
        have hs : sn < 4 := by
          have : ¬ nI 4 ≤ nI sn := fun z => cs (Or.inr z)
          rw [zi_le (by omega) sn1] at this
          omega
        have n0 : ¬ n < 0 := fun z => c3 (Int32.lt_trans z (by decide))
        obtain ⟨nn, nn1, rfl⟩ := zi_of n0
        have hn3 : 3 ≤ nn := by
          have : ¬ nI nn < nI 3 := c3
          rw [zi_lt nn1 (by omega)] at this
          omega
        have hn5 : nn ≤ 5 := by
          have : ¬ nI 5 < nI nn := c5
          rw [zi_lt (by omega) nn1] at this
          omega
        rw [zi_nat sn1, zi_nat nn1]
        obtain ⟨b1, b2, b3, b4, b5, b6⟩ := bs sn hs
        have nx : (nI sn).toNatClampNeg = sn := zi_nat (by omega)
        have gx : ¬ nI sn < 0 := zi_neg (by omega)
        have lx : ¬ 4 ≤ sn := by omega
        obtain ⟨C, RC, RC2, RC3⟩ := R0.1 sn hs
        obtain ⟨⟨g1, g2, g3, g4, g5, g7⟩, ⟨hI, hY⟩, I9, EE, sd, mn, fw, ob⟩ := id RC
        have H0 := g1
        have tq : nI (shT (W sn)) = 0 ↔ shT (W sn) = 0 := zi_eq (b := 0) (by have := sd.2.1.2.2; have : shT (shV (W sn)) = shT (W sn) := rfl; omega) (by omega)
        have len : ∀ r, r < 5 → zE (pI h 1200 616 0) 639 (5 * sn + r) = nI (dkL (shD (shV (W sn)) r)).length := fun r hr => (sd.2.2.1 r hr).1.2.2.1
        have lb : ∀ r, r < 5 → (dkL (shD (shV (W sn)) r)).length < 8192 := fun r hr => by have := (sd.2.2.1 r hr).2.1; omega
        by_cases ct : shT (W sn) = 0
        · have dt := eq_true (tq.mpr ct)
          have red : f_X11_replicas 616 (nI sn) (nI nn) h = f_X11_replicas_38 fz 616 (nI sn) (nI nn) (nI (5 * sn + 0)) (pI h 1200 616 0) := by
            have e50 : (5 : Int32) * nI sn = nI (5 * sn + 0) := zi_mul 5 sn
            simp only [f_X11_replicas, o10, o00, bh, isO, inR, ck_true, bind_some9, Nat.reduceLeDiff, Nat.reduceEqDiff, and_self, and_true, true_and, false_and, and_false, not_false_eq_true, not_true_eq_false, or_self, or_false, false_or, if_true, if_false, reduceIte, RF_o H, RF_1238 H, RO_646 H, RL_646 H, zR_pE, zT_pE, zL_pE, zn_pE, zE_pE, zI_pE, zR_pI, zT_pI, zL_pI, zn_pI, zE_pI, zI_pI, ei, c3, c5, nx, gx, lx, b5, dt, e50]
          rw [red]
          by_cases cz : ∀ r, r < 5 → dkL (shD (shV (W sn)) r) = []
          · have hz : ∀ r, r < 5 → zE (pI h 1200 616 0) 639 (5 * sn + r) = 0 := fun r hr => by rw [len r hr, cz r hr]; rfl
            have hany : ¬ ((List.range (shZ (W sn))).any (fun r => decide (0 < (dkL (shD (W sn) r)).length)) = true ∨ shT (W sn) ≠ 0) := by
              rintro (z | z)
              · obtain ⟨r, r1, r2⟩ := List.any_eq_true.mp z
                have r1 := List.mem_range.mp r1
                have r2 := of_decide_eq_true r2
                have := cz r (by omega)
                rw [show shD (shV (W sn)) r = shD (W sn) r from if_pos r1] at this
                rw [this] at r2
                exact absurd r2 (by decide)
              · exact z ct
            have eN : shRenew (W sn) nn = (true, nn, 0, shT (W sn), fun x => if x < 5 then ([], true, -1, 0, dkR (shD (W sn) x)) else shD (W sn) x, shN (W sn), shF (W sn), shO (W sn), shQ (W sn)) := by
              unfold shRenew
              rw [if_neg hany]
            have hok : (shRenew (W sn) nn).1 = true := by rw [eN]
            obtain ⟨nS, nY, nN⟩ := renew_S ⟨hI, RC2, RC3⟩ hn3 hn5 hok hY
            have fA : frx (fun a j => (a = 644 ∨ a = 645) ∧ j = sn) (pI h 1200 616 0) (pE (pE (pI h 1200 616 0) 644 sn (nI nn)) 645 sn 0) := (frx_pE ⟨by omega, rfl⟩).trans (frx_pE ⟨by omega, rfl⟩)
            obtain ⟨h1, a1, a2, a3⟩ := w_fresh_18 hs hn5 5 0 fz (pE (pE (pI h 1200 616 0) 644 sn (nI nn)) 645 sn 0) (H0.on fA) (by omega) (fz_big (by omega))
            have eFr : f_X11_fresh 616 (nI sn) (nI nn) (pI h 1200 616 0) = some h1 := by
              rw [← a1]
              have e50 : (5 : Int32) * nI sn = nI (5 * sn + 0) := zi_mul 5 sn
              simp only [f_X11_fresh, o10, o00, bh, isO, inR, ck_true, bind_some9, Nat.reduceLeDiff, Nat.reduceEqDiff, and_self, and_true, true_and, false_and, and_false, not_false_eq_true, not_true_eq_false, or_self, or_false, false_or, if_true, if_false, reduceIte, RF_o H, RF_1236 H, RO_644 H, RL_644 H, RF_1237 H, RO_645 H, RL_645 H, zR_pE, zT_pE, zL_pE, zn_pE, zE_pE, zI_pE, zR_pI, zT_pI, zL_pI, zn_pI, zE_pI, zI_pI, nx, gx, lx, e50]
            rw [w_reps_yes hs H0 hz eFr 5 0 fz (by omega) (fz_big (by omega))]
            have fB : frx (fpS sn (totQ W)) (pI h 1200 616 0) h1 := (fA.mono (fun a j z => Or.inl (Or.inr (Or.inr (Or.inl ⟨by omega, by omega⟩))))).trans (a2.mono (fun a j z => by unfold frS at z; exact Or.inl (Or.inl ⟨by omega, by omega, by omega⟩)))
            have oth : ∀ a j, ¬ ((a = 644 ∨ a = 645) ∧ j = sn) → ¬ frS sn a j → zE h1 a j = zE (pI h 1200 616 0) a j := fun a j z1 z2 => by rw [a2.2.2.2 a j z2, fA.2.2.2 a j z1]
            have fC : frx (fun a j => ((a = 644 ∨ a = 645) ∧ j = sn) ∨ frS sn a j) (pI h 1200 616 0) h1 := (fA.mono (fun a j z => Or.inl z)).trans (a2.mono (fun a j z => Or.inr z))
            have sN0 : shN (W sn) = 0 := by rw [eN] at nN; exact nN
            rw [eN] at nS nY
            have ru : RS vs (nI c) TX (othQ W sn) K sn h1 (nn, 0, shT (W sn), fun x => if x < 5 then ([], true, -1, 0, dkR (shD (W sn) x)) else shD (W sn) x, shN (W sn), shF (W sn), shO (W sn), shQ (W sn)) [] := by
              refine ⟨⟨g1.on fC, ?_, ?_, g4.on fC (fun a j z1 z2 z => by unfold frS at z; omega), g5, g7⟩, ⟨nS.1, nY⟩, fun _ => [], EE, ?_, ?_, ?_, ?_⟩
              · rw [fC.2.2.1 1224 (by unfold frS; omega)]; exact g2
              · rw [fC.2.2.1 1201 (by unfold frS; omega)]; exact g3
              · refine ⟨⟨?_, ?_, ?_⟩, ⟨hn3, hn5, sd.2.1.2.2⟩, fun r hr => ?_, fun x y hx5 hy5 => ?_, fun r hr => ?_⟩
                · rw [a2.2.2.2 644 sn (by unfold frS; omega), zE_pE, if_neg (by omega), zE_pE, if_pos ⟨rfl, rfl⟩]; rfl
                · rw [a2.2.2.2 645 sn (by unfold frS; omega), zE_pE, if_pos ⟨rfl, rfl⟩]; rfl
                · rw [oth 646 sn (by omega) (by unfold frS; omega)]; exact sd.1.2.2
                · obtain ⟨y1, y2, y3⟩ := (a3 r hr).2 (Nat.zero_le _)
                  have e39 : zE h1 639 (5 * sn + r) = 0 := by rw [oth 639 _ (by omega) (by unfold frS; omega)]; exact hz r hr
                  by_cases crn : r < nn
                  · rw [if_pos crn] at y1
                    have eD : shD (shV ((nn, 0, shT (W sn), fun x => if x < 5 then ([], true, -1, 0, dkR (shD (W sn) x)) else shD (W sn) x, shN (W sn), shF (W sn), shO (W sn), shQ (W sn)) : Shd)) r = ([], true, -1, 0, dkR (shD (W sn) r)) := (if_pos crn).trans (if_pos hr)
                    rw [eD]
                    show dkAt h1 _ [] _ _
                    exact ⟨⟨y1, y2, e39, y3⟩, ⟨rfl, Nat.zero_lt_succ _⟩, (fun k i z => by simp at z), (fun k i rr z => by simp at z), fun z => absurd rfl z⟩
                  · rw [if_neg crn] at y1
                    have eD : shD (shV ((nn, 0, shT (W sn), fun x => if x < 5 then ([], true, -1, 0, dkR (shD (W sn) x)) else shD (W sn) x, shN (W sn), shF (W sn), shO (W sn), shQ (W sn)) : Shd)) r = ([], false, -1, 0, (0, 0, 0, 0, 0, 0)) := if_neg crn
                    rw [eD]
                    show dkAt h1 _ [] _ _
                    exact ⟨⟨y1, y2, e39, y3⟩, ⟨rfl, Nat.zero_lt_succ _⟩, (fun k i z => by simp at z), (fun k i rr z => by simp at z), fun z => absurd rfl z⟩
                · have eL : ∀ x, x < 5 → dkL (shD (shV ((nn, 0, shT (W sn), fun x => if x < 5 then ([], true, -1, 0, dkR (shD (W sn) x)) else shD (W sn) x, shN (W sn), shF (W sn), shO (W sn), shQ (W sn)) : Shd)) x) = [] := fun x hx => by
                    by_cases crn : x < nn
                    · rw [show shD (shV ((nn, 0, shT (W sn), fun x => if x < 5 then ([], true, -1, 0, dkR (shD (W sn) x)) else shD (W sn) x, shN (W sn), shF (W sn), shO (W sn), shQ (W sn)) : Shd)) x = ([], true, -1, 0, dkR (shD (W sn) x)) from (if_pos crn).trans (if_pos hx)]
                    · rw [show shD (shV ((nn, 0, shT (W sn), fun x => if x < 5 then ([], true, -1, 0, dkR (shD (W sn) x)) else shD (W sn) x, shN (W sn), shF (W sn), shO (W sn), shQ (W sn)) : Shd)) x = ([], false, -1, 0, (0, 0, 0, 0, 0, 0)) from if_neg crn]
                  rw [eL x hx5, eL y hy5]
                  exact ⟨rfl, rfl, fun k i j a b z => by simp at z⟩
                · by_cases crn : r < nn
                  · rw [show shD (shV ((nn, 0, shT (W sn), fun x => if x < 5 then ([], true, -1, 0, dkR (shD (W sn) x)) else shD (W sn) x, shN (W sn), shF (W sn), shO (W sn), shQ (W sn)) : Shd)) r = ([], true, -1, 0, dkR (shD (W sn) r)) from (if_pos crn).trans (if_pos hr)]
                    exact fun _ => ⟨rfl, Or.inl rfl⟩
                  · rw [show shD (shV ((nn, 0, shT (W sn), fun x => if x < 5 then ([], true, -1, 0, dkR (shD (W sn) x)) else shD (W sn) x, shN (W sn), shF (W sn), shO (W sn), shQ (W sn)) : Shd)) r = ([], false, -1, 0, (0, 0, 0, 0, 0, 0)) from if_neg crn]
                    intro z
                    cases z
              · exact mn.on fC (by unfold frS; omega) (fun n _ => by unfold frS; omega)
              · intro x hx
                have hx : x < shN (W sn) := hx
                omega
              · exact ob.on fC (by unfold frS; omega) (fun a k g _ => by unfold frS; omega)
            have RN := R0.1.act hK hs fB ru nS.2.1 nS.2.2 (Nat.le_refl _)
            rw [eN]
            exact aftB_t (aft_act hK R0 e0 f0 RN (fB.mono (fpS_wd hs)) (WdT_act R0.2.2.1 (fun n hn => Or.inr ⟨hn, rfl⟩)))
          · obtain ⟨r, hr⟩ := Classical.not_forall.mp cz
            obtain ⟨hr5, hr⟩ := Classical.not_imp.mp hr
            have hr0 : 0 < (dkL (shD (shV (W sn)) r)).length := List.length_pos_iff.mpr hr
            have hz : ¬ zE (pI h 1200 616 0) 639 (5 * sn + r) ≤ 0 := by
              rw [len r hr5]
              exact zi_le0 (b := 0) (by have := lb r hr5; omega) (by omega) (by omega)
            have hrz : r < shZ (W sn) := by
              refine Nat.lt_of_not_le (fun z => hr ?_)
              rw [show shD (shV (W sn)) r = ([], false, -1, 0, (0, 0, 0, 0, 0, 0)) from if_neg (by omega)]
            rw [show shD (shV (W sn)) r = shD (W sn) r from if_pos hrz] at hr0
            rw [w_reps_no hs H0 hr5 hz 5 0 fz (by omega) (fz_big (by omega)) (Nat.zero_le _)]
            have eN : shRenew (W sn) nn = (false, W sn) := by
              unfold shRenew
              rw [if_pos (Or.inl (List.any_eq_true.mpr ⟨r, List.mem_range.mpr hrz, decide_eq_true hr0⟩))]
            rw [eN]
            show aftB vs c TX K tk h (false, upf W sn (W sn)) _
            rw [upf_same]
            exact aftB_f (stay _)
        · have dt := eq_false (fun z => ct (tq.mp z))
          have eN : shRenew (W sn) nn = (false, W sn) := by
            unfold shRenew
            rw [if_pos (Or.inr ct)]
          rw [eN]
          simp only [f_X11_replicas, o10, o00, bh, isO, inR, ck_true, bind_some9, Nat.reduceLeDiff, Nat.reduceEqDiff, and_self, and_true, true_and, false_and, and_false, not_false_eq_true, not_true_eq_false, or_self, or_false, false_or, if_true, if_false, reduceIte, RF_o H, RF_1238 H, RO_646 H, RL_646 H, zR_pE, zT_pE, zL_pE, zn_pE, zE_pE, zI_pE, zR_pI, zT_pI, zL_pI, zn_pI, zE_pI, zI_pI, ei, c3, c5, nx, gx, lx, b5, dt]
          rw [upf_same]
          exact aftB_f (stay _)
/-! POWER, IN THE REFERENCE -/
theorem o01 : ((0 : Int32) = 1) = False := eq_false (by decide)
theorem w_down {h : Hp} (H : RF h) {x : Nat} (hx : x < 20) : f_X11_down 616 (nI x) h = some (pE (pE h 642 x 0) 643 x (-1)) := by
  have nx : (nI x).toNatClampNeg = x := zi_nat (by omega)
  have gx : ¬ nI x < 0 := zi_neg (by omega)
  have lx : ¬ 20 ≤ x := by omega
  simp only [f_X11_down, o10, o00, bh, isO, inR, ck_true, bind_some9, Nat.reduceLeDiff, Nat.reduceEqDiff, and_self, and_true, true_and, false_and, and_false, not_false_eq_true, not_true_eq_false, or_self, or_false, false_or, if_true, if_false, reduceIte, RF_o H, RF_1234 H, RO_642 H, RL_642 H, RF_1235 H, RO_643 H, RL_643 H, zR_pE, zT_pE, zL_pE, zn_pE, zE_pE, zI_pE, zR_pI, zT_pI, zL_pI, zn_pI, zE_pI, zI_pI, nx, gx, lx, an01]
theorem dkAt_set {h h1 : Hp} {N x : Nat} {I : List Nat} {d d1 : Dk} (q : dkAt h N I x d) (f : frx (fun a j => (a = 640 ∨ a = 642 ∨ a = 643) ∧ j = x) h h1) (eL : dkL d1 = dkL d) (eR : dkT d1 ≠ 0 → dkT d ≠ 0 ∧ dkR d1 = dkR d) (e1 : zE h1 642 x = if dkU d1 = true then 1 else 0) (e2 : zE h1 643 x = dkF d1) (e3 : zE h1 640 x = nI (dkT d1)) : dkAt h1 N I x d1 := by
  obtain ⟨⟨v1, v2, v3, v4⟩, v5, v6, v7, v8⟩ := q
  have oth : ∀ a j, a ≠ 640 → a ≠ 642 → a ≠ 643 → zE h1 a j = zE h a j := fun a j h1 h2 h3 => f.2.2.2 a j (by omega)
  have rco : ∀ i rr, idAt h N i rr → idAt h1 N i rr := fun i rr z => ⟨z.1, z.2.on f (fun a => by omega)⟩
  refine ⟨⟨e1, e2, by rw [oth _ _ (by omega) (by omega) (by omega), eL]; exact v3, e3⟩, by rw [eL]; exact v5, fun k i z => by rw [oth _ _ (by omega) (by omega) (by omega)]; exact v6 k i z, fun k i rr z1 z2 => rco i rr (v7 k i rr z1 (by rw [← eL]; exact z2)), fun z => ?_⟩
  obtain ⟨z1, z2⟩ := eR z
  obtain ⟨i, i1, i2⟩ := v8 z1
  exact ⟨i, by rw [oth _ _ (by omega) (by omega) (by omega)]; exact i1, by rw [z2]; exact rco i _ i2⟩
theorem most_down {q : Shd} {r : Nat} (hm : shMost q = false) {d : Dk} (hd : dkU d = false) : shMost (shSetD q (upf (shD q) r d)) = false := by
  cases hc : shMost (shSetD q (upf (shD q) r d)) with
  | false => rfl
  | true =>
    have h1 := (shMost_iff _).mp hc
    have h1 : shZ q < 2 * ((List.range (shZ q)).filter (fun x => dkU (upf (shD q) r d x))).length := h1
    have h2 : ¬ shMost q = true := by rw [hm]; exact fun z => Bool.noConfusion z
    rw [shMost_iff] at h2
    have : ((List.range (shZ q)).filter (fun x => dkU (upf (shD q) r d x))).length ≤ ((List.range (shZ q)).filter (fun x => dkU (shD q x))).length := by
      have hsub : ∀ l : List Nat, (l.filter (fun x => dkU (upf (shD q) r d x))).length ≤ (l.filter (fun x => dkU (shD q x))).length := fun l => by
        induction l with
        | nil => exact Nat.le_refl _
        | cons a t ih =>
          rw [List.filter_cons, List.filter_cons]
          by_cases c : a = r
          · have : dkU (upf (shD q) r d a) = false := by rw [show upf (shD q) r d a = d from if_pos c]; exact hd
            rw [if_neg (by rw [this]; exact fun z => Bool.noConfusion z)]
            split
            · rw [List.length_cons]; omega
            · exact ih
          · rw [show upf (shD q) r d a = shD q a from if_neg c]
            split
            · rw [List.length_cons, List.length_cons]; omega
            · exact ih
      exact hsub _
    omega
theorem ups_le5 {vs : Nat → List Prg} {q : Shd} {C : List Rec} (hI : ShI vs q C) (D : Nat → Dk) : upsN (shZ q) D ≤ 5 := Nat.le_trans (upsN_le (shZ q) D) hI.1.1
theorem disks_on {vs : Nat → List Prg} {now : Int32} {TX : List (Nat × Nat × Nat × Prg)} {B K K1 s : Nat} {h h1 : Hp} {q : Shd} {C : List Rec} (R : RS vs now TX B K s h q C) (f : frx (dsS s) h h1) (hK : K1 ≤ 2000) : RG vs now TX B K1 h1 (B + shQ q) ∧ ∃ EE, mnAt h1 s (shN q) ∧ fwAt h1 (B + shQ q) s EE (shN q) (shF q) ∧ obAt h1 s (shO q) := by
  obtain ⟨⟨g1, g2, g3, g4, ⟨g5, g6⟩, g7⟩, -, I, EE, -, mn, fw, ob⟩ := R
  have hM := mn.1.2
  have no : ∀ a j, (a < 638 ∨ 643 < a) → ¬ dsS s a j := fun a j ha z => by
    obtain ⟨r, -, z⟩ := z
    unfold dkS at z
    omega
  refine ⟨⟨g1.on f, ?_, ?_, g4.on f (fun a j z1 z2 => no a j (by omega)), ⟨g5, hK⟩, g7⟩, EE, ?_, ?_, ?_⟩
  · rw [f.2.2.1 1224 (no _ _ (by omega))]; exact g2
  · rw [f.2.2.1 1201 (no _ _ (by omega))]; exact g3
  · exact mn.on f (no _ _ (by omega)) (fun n _ => no _ _ (by omega))
  · exact fw.on hM f (fun a i _ => by
      by_cases ca : a < 633 ∨ 637 < a
      · exact Or.inr ca
      · exact Or.inl (no _ _ (by omega))) (fun a j g _ => no _ _ (by omega)) (fun a j g => no _ _ (by omega))
  · exact ob.on f (no _ _ (by omega)) (fun a k g _ => no _ _ (by omega))
theorem w_power {vs : Nat → List Prg} {c : Nat} {TX : List (Nat × Nat × Nat × Prg)} {K tk : Nat} {h : Hp} {W : Wld} (hK : K + 1 ≤ 1600) (R : RT vs c TX K tk h W) (s r : Int32) (on : Bool) : aftB vs c TX (K + 1) tk h (wdPower vs (nI c) W s r on) (f_X11_power 616 s r (if on = true then 1 else 0) h) := by
  obtain ⟨R0, e0, f0⟩ := R.th (by omega) 0
  obtain ⟨G, tb, bs⟩ := R.1.base (by omega)
  have H := G.1
  have R1 := R0.moreK (Nat.le_succ K) hK
  have stay : ∀ r : Int32, aft vs c TX (K + 1) tk h W 0 r (some (r, pI h 1200 616 0)) := fun r => ⟨_, rfl, e0, R1, f0⟩
  have eR := w_isReplica R0.1 (by omega) s r
  unfold wdPower
  cases er : rplc W s r with
  | none =>
    rw [er] at eR
    have eR : f_X11_isReplica 616 s r (pI h 1200 616 0) = some (0, pI h 1200 616 0) := eR
    simp only [f_X11_power, o10, o00, bh, isO, inR, ck_true, bind_some9, Nat.reduceLeDiff, Nat.reduceEqDiff, and_self, and_true, true_and, false_and, and_false, not_false_eq_true, not_true_eq_false, or_self, or_false, false_or, if_true, if_false, reduceIte, RF_o H, RF_1232 H, RO_640 H, RL_640 H, RF_1234 H, RO_642 H, RL_642 H, RF_1236 H, RO_644 H, RL_644 H, RF_1237 H, RO_645 H, RL_645 H, zR_pE, zT_pE, zL_pE, zn_pE, zE_pE, zI_pE, zR_pI, zT_pI, zL_pI, zn_pI, zE_pI, zI_pI, eR]
    exact aftB_f (stay _)
  | some sr =>
    obtain ⟨sn, rn⟩ := sr
    rw [er] at eR
    have eR : f_X11_isReplica 616 s r (pI h 1200 616 0) = some (1, pI h 1200 616 0) := eR
    obtain ⟨hs, hr, rfl, rfl, -, -⟩ := rplc_some er (R.1.Z (by omega))
    have z5 := R.1.Z (by omega) sn hs
    obtain ⟨b1, b2, b3, b4, b5, b6⟩ := bs sn hs
    obtain ⟨⟨I, dk⟩, dok⟩ := R.1.disk hs hr
    obtain ⟨⟨u1, u2, u3, u4⟩, -⟩ := dk
    have nx : (nI (5 * sn + rn)).toNatClampNeg = 5 * sn + rn := zi_nat (by omega)
    have gx : ¬ nI (5 * sn + rn) < 0 := zi_neg (by omega)
    have lx : ¬ 20 ≤ 5 * sn + rn := by omega
    have ns : (nI sn).toNatClampNeg = sn := zi_nat (by omega)
    have gs : ¬ nI sn < 0 := zi_neg (by omega)
    have ls : ¬ 4 ≤ sn := by omega
    simp only []
    by_cases cu : dkU (shD (W sn) rn) = on
    · rw [if_pos cu]
      rw [cu] at u1
      have d := eq_true u1
      simp only [f_X11_power, o10, o00, bh, isO, inR, ck_true, bind_some9, Nat.reduceLeDiff, Nat.reduceEqDiff, and_self, and_true, true_and, false_and, and_false, not_false_eq_true, not_true_eq_false, or_self, or_false, false_or, if_true, if_false, reduceIte, RF_o H, RF_1232 H, RO_640 H, RL_640 H, RF_1234 H, RO_642 H, RL_642 H, RF_1236 H, RO_644 H, RL_644 H, RF_1237 H, RO_645 H, RL_645 H, zR_pE, zT_pE, zL_pE, zn_pE, zE_pE, zI_pE, zR_pI, zT_pI, zL_pI, zn_pI, zE_pI, zI_pI, eR, zi_five, nx, gx, lx, u1]
      exact aftB_f (stay _)
    · rw [if_neg cu]
      obtain ⟨C, RC, RC2, RC3⟩ := R0.1 sn hs
      obtain ⟨G9, ⟨hI, hY⟩, I9, EE, sd, mn, fw, ob⟩ := id RC
      have H0 := G9.1
      have ev : shD (shV (W sn)) rn = shD (W sn) rn := if_pos hr
      have d0 := sd.2.2.1 rn (by omega)
      rw [ev] at d0
      have os := othQ_add W hs
      have kl : KLok vs (nI c) TX (othQ W sn) (K + 1) sn 5 (f_losesD 30) := losesD_ok hs 5 30 (by omega)
      cases on with
      | false =>
        have hu : dkU (shD (W sn) rn) = true := by
          cases hz : dkU (shD (W sn) rn) with
          | true => rfl
          | false => exact absurd hz cu
        rw [hu, if_pos rfl] at u1
        have d01 : (zE h 642 (5 * sn + rn) = 0) = False := by rw [u1]; exact o10
        rw [if_neg (fun z => Bool.noConfusion z), if_neg (fun z => Bool.noConfusion z)]
        generalize hg : pE (pE (pI h 1200 616 0) 642 (5 * sn + rn) 0) 643 (5 * sn + rn) (-1) = g
        have eD : f_X11_down 616 (nI (5 * sn + rn)) (pI h 1200 616 0) = some g := by rw [← hg]; exact w_down H0 (by omega)
        have fe : frx (fun a j => (a = 640 ∨ a = 642 ∨ a = 643) ∧ j = 5 * sn + rn) (pI h 1200 616 0) g := by
          rw [← hg]; exact (frx_pE ⟨by omega, rfl⟩).trans (frx_pE ⟨by omega, rfl⟩)
        have fd : frx (dkS (5 * sn + rn)) (pI h 1200 616 0) g := fe.mono (fun a j z => Or.inl ⟨by omega, z.2⟩)
        have fs : frx (dsS sn) (pI h 1200 616 0) g := fd.mono (fun a j z => ⟨rn, by omega, z⟩)
        have dkn : dkAt g (othQ W sn + shQ (W sn)) (I9 rn) (5 * sn + rn) (dkOff (shD (W sn) rn)) := dkAt_set d0 fe rfl (fun z => ⟨z, rfl⟩) (by rw [← hg, zE_pE, if_neg (by omega), zE_pE, if_pos ⟨rfl, rfl⟩]; rfl) (by rw [← hg, zE_pE, if_pos ⟨rfl, rfl⟩]) (by rw [← hg, zE_pE, if_neg (by omega), zE_pE, if_neg (by omega)]; exact d0.1.2.2.2)
        have sd1 := sdAt_one sd hr fd dkn (uqI_same sd.2.2.2.1 (by rw [ev])) (fun z => by cases z)
        obtain ⟨lI, lY⟩ := lower_I ⟨hI, RC2, RC3⟩ hr hY
        obtain ⟨E9, -, -, lT, -⟩ := lower_S (nI c) ⟨hI, RC2, RC3⟩ hr hY
        have eLow : shLower (W sn) rn = if shL (W sn) = nI rn ∨ shMost (shSetD (W sn) (upf (shD (W sn)) rn (dkOff (shD (W sn) rn)))) = false then shLose (shSetD (W sn) (upf (shD (W sn)) rn (dkOff (shD (W sn) rn)))) else shSetD (W sn) (upf (shD (W sn)) rn (dkOff (shD (W sn) rn))) := rfl
        obtain ⟨GG, EE1, mn1, fw1, ob1⟩ := disks_on (K1 := K + 1) RC fs (by omega)
        generalize hu0 : shSetD (W sn) (upf (shD (W sn)) rn (dkOff (shD (W sn) rn))) = u0 at *
        have uN : shN u0 = shN (W sn) := by rw [← hu0]; rfl
        have uF : shF u0 = shF (W sn) := by rw [← hu0]; rfl
        have uO : shO u0 = shO (W sn) := by rw [← hu0]; rfl
        have uQ : shQ u0 = shQ (W sn) := by rw [← hu0]; rfl
        have uZ : shZ u0 = shZ (W sn) := by rw [← hu0]; rfl
        have uL : shL u0 = shL (W sn) := by rw [← hu0]; rfl
        have ft : frx (fpS sn (totQ W)) (pI h 1200 616 0) g := fs.mono dsS_fp
        have Hg := H0.on fd
        have eg : ∀ a j, a ≠ 640 → a ≠ 642 → a ≠ 643 → zE g a j = zE h a j := fun a j h1 h2 h3 => (fe.2.2.2 a j (by omega)).trans (zE_pI ..)
        have g45 : zE g 645 sn = shL (W sn) := by rw [eg _ _ (by omega) (by omega) (by omega)]; exact b1
        have g44 : zE g 644 sn = nI (shZ (W sn)) := by rw [eg _ _ (by omega) (by omega) (by omega)]; exact b4
        have lose : shLower (W sn) rn = shLose u0 → ∃ h2, f_losesD 30 616 (nI sn) g = some h2 ∧ aftB vs c TX (K + 1) tk h (true, upf W sn (stl vs (nI c) (shLower (W sn) rn))) (some (1, h2)) := fun el => by
          rw [el] at lI lY
          obtain ⟨h2, E, k1, k2, k3, k4, k5⟩ := kl g u0 C ⟨by rw [uQ]; exact GG, ⟨lI, lY⟩, by rw [uZ]; exact ups_le5 hI _, upf I9 rn (I9 rn), EE1, by rw [uQ]; exact sd1, by rw [uN]; exact mn1, by rw [uN, uF, uQ]; exact fw1, by rw [uO]; exact ob1⟩
          refine ⟨h2, k1, ?_⟩
          rw [uQ] at k2
          have lq : shQ (shLose u0) = shQ (W sn) := uQ
          obtain ⟨RN, fN⟩ := R1.1.act2 (C := C) hK hs ⟨E, (fs.mono dsS_fp).trans k2, k4, k3, k5⟩ lI (fun z => absurd rfl z) (by rw [lq]; exact Nat.le_refl _)
          rw [el]
          rw [el] at lT
          exact aftB_t (aft_act hK R1 e0 f0 RN (fN.mono (fpS_wd hs)) (WdT_act R1.2.2.1 lT))
        have keep : stl vs (nI c) (shLower (W sn) rn) = u0 → ShS vs u0 C → shY u0 ≤ lgW C + (K + 1) → aftB vs c TX (K + 1) tk h (true, upf W sn (stl vs (nI c) (shLower (W sn) rn))) (some (1, g)) := fun el sS sY => by
          have ru := RS_disks (K1 := K + 1) hs RC fs (by omega) sS.1 sY sd1 uN uF uO uQ
          have RN := R1.1.act hK hs ft ru sS.2.1 sS.2.2 (by rw [uQ]; exact Nat.le_refl _)
          rw [el]
          rw [el] at lT
          exact aftB_t (aft_act hK R1 e0 f0 RN (ft.mono (fpS_wd hs)) (WdT_act R1.2.2.1 lT))
        by_cases ca : shL (W sn) = nI rn
        · obtain ⟨h2, k1, fin⟩ := lose (by rw [eLow, if_pos (Or.inl ca)])
          have da := eq_true (g45.trans ca)
          simp only [f_X11_power, o10, o00, bh, isO, inR, ck_true, bind_some9, Nat.reduceLeDiff, Nat.reduceEqDiff, and_self, and_true, true_and, false_and, and_false, not_false_eq_true, not_true_eq_false, or_self, or_false, false_or, if_true, if_false, reduceIte, RF_o H, RF_1232 H, RO_640 H, RL_640 H, RF_1234 H, RO_642 H, RL_642 H, RF_1236 H, RO_644 H, RL_644 H, RF_1237 H, RO_645 H, RL_645 H, zR_pE, zT_pE, zL_pE, zn_pE, zE_pE, zI_pE, zR_pI, zT_pI, zL_pI, zn_pI, zE_pI, zI_pI, eR, zi_five, nx, gx, lx, d01, eD, RF_o Hg, RF_1237 Hg, RO_645 Hg, RL_645 Hg, ns, gs, ls, da, k1]
          exact fin
        · have da := eq_false (fun z => ca (g45.symm.trans z))
          by_cases cm : shL (W sn) = -1
          · have dm := eq_true (g45.trans cm)
            have m0 : shMost u0 = false := by rw [← hu0]; exact most_down (RC3 cm) rfl
            have el : shLose u0 = u0 := shLose_id (by rw [uL]; exact cm) (fun n hn => by
              rw [uN] at hn
              rw [uF]
              exact (hI.2.2.2 n hn).resolve_right (fun z => z.2 cm))
            have el2 : shLower (W sn) rn = u0 := by rw [eLow, if_pos (Or.inr m0), el]
            rw [el2] at lI lY
            have fin := keep (by rw [el2, stl_off vs (nI c) (Or.inr m0)]) ⟨lI, fun z => absurd (uL.trans cm) z, fun _ => m0⟩ lY
            simp only [f_X11_power, o10, o00, bh, isO, inR, ck_true, bind_some9, Nat.reduceLeDiff, Nat.reduceEqDiff, and_self, and_true, true_and, false_and, and_false, not_false_eq_true, not_true_eq_false, or_self, or_false, false_or, if_true, if_false, reduceIte, RF_o H, RF_1232 H, RO_640 H, RL_640 H, RF_1234 H, RO_642 H, RL_642 H, RF_1236 H, RO_644 H, RL_644 H, RF_1237 H, RO_645 H, RL_645 H, zR_pE, zT_pE, zL_pE, zn_pE, zE_pE, zI_pE, zR_pI, zT_pI, zL_pI, zn_pI, zE_pI, zI_pI, eR, zi_five, nx, gx, lx, d01, eD, RF_o Hg, RF_1237 Hg, RO_645 Hg, RL_645 Hg, ns, gs, ls, da, dm]
            exact fin
          · have dm := eq_false (fun z => cm (g45.symm.trans z))
            have eU := w_ups_sd Hg hs sd1
            have u5 : shUps u0 ≤ 5 := by rw [shUps_N, uZ]; exact ups_le5 hI _
            have e2u : (2 : Int32) * nI (shUps u0) = nI (2 * shUps u0) := zi_mul 2 _
            have q2 : nI (shZ (W sn)) < nI (2 * shUps u0) ↔ shZ (W sn) < 2 * shUps u0 := zi_lt (by omega) (by omega)
            by_cases cq : shZ (W sn) < 2 * shUps u0
            · have dq := eq_true (q2.mpr cq)
              have m1 : shMost u0 = true := by unfold shMost; rw [uZ]; exact decide_eq_true cq
              have el2 : shLower (W sn) rn = u0 := by rw [eLow, if_neg (by rintro (z | z); exact ca z; rw [m1] at z; cases z)]
              rw [el2] at lI lY
              have fin := keep (by rw [el2, stl_off vs (nI c) (Or.inl (by rw [uL]; exact cm))]) ⟨lI, fun _ n hn => by rw [uF]; rw [uN] at hn; exact RC2 cm n hn, fun z => absurd (uL.symm.trans z) cm⟩ lY
              simp only [f_X11_power, o10, o00, bh, isO, inR, ck_true, bind_some9, Nat.reduceLeDiff, Nat.reduceEqDiff, and_self, and_true, true_and, false_and, and_false, not_false_eq_true, not_true_eq_false, or_self, or_false, false_or, if_true, if_false, reduceIte, RF_o H, RF_1232 H, RO_640 H, RL_640 H, RF_1234 H, RO_642 H, RL_642 H, RF_1236 H, RO_644 H, RL_644 H, RF_1237 H, RO_645 H, RL_645 H, zR_pE, zT_pE, zL_pE, zn_pE, zE_pE, zI_pE, zR_pI, zT_pI, zL_pI, zn_pI, zE_pI, zI_pI, eR, zi_five, nx, gx, lx, d01, eD, RF_o Hg, RF_1237 Hg, RO_645 Hg, RL_645 Hg, ns, gs, ls, da, dm, eU, RF_1236 Hg, RO_644 Hg, RL_644 Hg, g44, e2u, dq]
              exact fin
            · have dq := eq_false (fun z => cq (q2.mp z))
              have m1 : shMost u0 = false := by unfold shMost; rw [uZ]; exact decide_eq_false cq
              obtain ⟨h2, k1, fin⟩ := lose (by rw [eLow, if_pos (Or.inr m1)])
              simp only [f_X11_power, o10, o00, bh, isO, inR, ck_true, bind_some9, Nat.reduceLeDiff, Nat.reduceEqDiff, and_self, and_true, true_and, false_and, and_false, not_false_eq_true, not_true_eq_false, or_self, or_false, false_or, if_true, if_false, reduceIte, RF_o H, RF_1232 H, RO_640 H, RL_640 H, RF_1234 H, RO_642 H, RL_642 H, RF_1236 H, RO_644 H, RL_644 H, RF_1237 H, RO_645 H, RL_645 H, zR_pE, zT_pE, zL_pE, zn_pE, zE_pE, zI_pE, zR_pI, zT_pI, zL_pI, zn_pI, zE_pI, zI_pI, eR, zi_five, nx, gx, lx, d01, eD, RF_o Hg, RF_1237 Hg, RO_645 Hg, RL_645 Hg, ns, gs, ls, da, dm, eU, RF_1236 Hg, RO_644 Hg, RL_644 Hg, g44, e2u, dq, k1]
              exact fin
      | true =>
        have hu : dkU (shD (W sn) rn) = false := by
          cases hz : dkU (shD (W sn) rn) with
          | false => rfl
          | true => exact absurd hz cu
        rw [hu, if_neg (fun z => Bool.noConfusion z)] at u1
        have d01 : (zE h 642 (5 * sn + rn) = 1) = False := by rw [u1]; exact eq_false (by decide)
        rw [if_pos rfl, if_pos rfl]
        have hF := (hI.2.2.1.2.1 rn hr).2.2 hu
        generalize hg : pE (pE (pI h 1200 616 0) 642 (5 * sn + rn) 1) 640 (5 * sn + rn) 0 = g
        have fe : frx (fun a j => (a = 640 ∨ a = 642 ∨ a = 643) ∧ j = 5 * sn + rn) (pI h 1200 616 0) g := by
          rw [← hg]; exact (frx_pE ⟨by omega, rfl⟩).trans (frx_pE ⟨by omega, rfl⟩)
        have fd : frx (dkS (5 * sn + rn)) (pI h 1200 616 0) g := fe.mono (fun a j z => Or.inl ⟨by omega, z.2⟩)
        have fs : frx (dsS sn) (pI h 1200 616 0) g := fd.mono (fun a j z => ⟨rn, by omega, z⟩)
        generalize hd1 : ((dkL (shD (W sn) rn), true, dkF (shD (W sn) rn), 0, dkR (shD (W sn) rn)) : Dk) = d1
        have d1L : dkL d1 = dkL (shD (W sn) rn) := by rw [← hd1]
        have d1U : dkU d1 = true := by rw [← hd1]
        have d1F : dkF d1 = -1 := by rw [← hd1]; exact hF
        have d1T : dkT d1 = 0 := by rw [← hd1]
        have d1O : dkOK d1 := fun _ => ⟨d1T, Or.inl d1F⟩
        have dkn : dkAt g (othQ W sn + shQ (W sn)) (I9 rn) (5 * sn + rn) d1 := dkAt_set d0 fe d1L (fun z => absurd d1T z) (by rw [← hg, zE_pE, if_neg (by omega), zE_pE, if_pos ⟨rfl, rfl⟩, d1U]; rfl) (by rw [← hg, zE_pE, if_neg (by omega), zE_pE, if_neg (by omega), d1F, d0.1.2.1]; exact hF) (by rw [← hg, zE_pE, if_pos ⟨rfl, rfl⟩, d1T]; rfl)
        have uq0 := uqI_same (r := rn) (d1 := d1) sd.2.2.2.1 (by rw [ev, d1L])
        have sd1 := sdAt_one sd hr fd dkn uq0 d1O
        obtain ⟨lI, lY⟩ := raise_I ⟨hI, RC2, RC3⟩ hr hu hY
        obtain ⟨E9, -, -, lT, -⟩ := raise_S (nI c) ⟨hI, RC2, RC3⟩ hr hu hY
        have eRa : shRaise (W sn) rn = shSetD (W sn) (upf (shD (W sn)) rn (if shWorks (W sn) then dkAlike d1 (shD (W sn) (shL (W sn)).toNatClampNeg) else d1)) := by rw [← hd1]; rfl
        obtain ⟨GG, EE1, mn1, fw1, ob1⟩ := disks_on (K1 := K + 1) RC fs (by omega)
        have Hg := H0.on fd
        have eg : ∀ a j, a ≠ 640 → a ≠ 642 → a ≠ 643 → zE g a j = zE h a j := fun a j h1 h2 h3 => (fe.2.2.2 a j (by omega)).trans (zE_pI ..)
        have g45 : zE g 645 sn = shL (W sn) := by rw [eg _ _ (by omega) (by omega) (by omega)]; exact b1
        by_cases cm : shL (W sn) = -1
        · have dm : (zE h 645 sn = -1) = True := eq_true (b1.trans cm)
          have w0 : shWorks (W sn) = false := decide_eq_false (fun z => z cm)
          rw [w0, if_neg (fun z => Bool.noConfusion z)] at eRa
          generalize hu0 : shSetD (W sn) (upf (shD (W sn)) rn d1) = u0 at *
          have uN : shN u0 = shN (W sn) := by rw [← hu0]; rfl
          have uF : shF u0 = shF (W sn) := by rw [← hu0]; rfl
          have uO : shO u0 = shO (W sn) := by rw [← hu0]; rfl
          have uQ : shQ u0 = shQ (W sn) := by rw [← hu0]; rfl
          have uZ : shZ u0 = shZ (W sn) := by rw [← hu0]; rfl
          have uL : shL u0 = shL (W sn) := by rw [← hu0]; rfl
          have el : shLose u0 = u0 := shLose_id (by rw [uL]; exact cm) (fun n hn => by
            rw [uN] at hn
            rw [uF]
            exact (hI.2.2.2 n hn).resolve_right (fun z => z.2 cm))
          rw [eRa] at lI lY lT ⊢
          obtain ⟨h2, E, k1, k2, k3, k4, k5⟩ := kl g u0 C ⟨by rw [uQ]; exact GG, ⟨by rw [el]; exact lI, by rw [el]; omega⟩, by rw [uZ]; exact ups_le5 hI _, upf I9 rn (I9 rn), EE1, by rw [uQ]; exact sd1, by rw [uN]; exact mn1, by rw [uN, uF, uQ]; exact fw1, by rw [uO]; exact ob1⟩
          rw [uQ] at k2
          rw [el] at k3 k5
          obtain ⟨RN, fN⟩ := R1.1.act2 (C := C) hK hs ⟨E, (fs.mono dsS_fp).trans k2, k4, k3, k5⟩ lI (fun z => absurd (uL.trans cm) z) (by rw [uQ]; exact Nat.le_refl _)
          have fin := aftB_t (aft_act (r := 1) hK R1 e0 f0 RN (fN.mono (fpS_wd hs)) (WdT_act R1.2.2.1 lT))
          simp only [f_X11_power, o10, o00, bh, isO, inR, ck_true, bind_some9, Nat.reduceLeDiff, Nat.reduceEqDiff, and_self, and_true, true_and, false_and, and_false, not_false_eq_true, not_true_eq_false, or_self, or_false, false_or, if_true, if_false, reduceIte, RF_o H, RF_1232 H, RO_640 H, RL_640 H, RF_1234 H, RO_642 H, RL_642 H, RF_1236 H, RO_644 H, RL_644 H, RF_1237 H, RO_645 H, RL_645 H, zR_pE, zT_pE, zL_pE, zn_pE, zE_pE, zI_pE, zR_pI, zT_pI, zL_pI, zn_pI, zE_pI, zI_pI, eR, zi_five, nx, gx, lx, u1, ns, gs, ls, dm, an11, o01, hg, k1]
          exact fin
        · have dm : (zE h 645 sn = -1) = False := eq_false (fun z => cm (b1.symm.trans z))
          have w1 : shWorks (W sn) = true := (works_iff _).mpr cm
          obtain ⟨l, wl, hCl⟩ := hI.w cm
          have hlZ := wl.1
          have hlL : shL (W sn) = nI l := wl.2.1
          have hlU : dkU (shD (W sn) l) = true := wl.2.2.1
          have ne : rn ≠ l := fun z => by rw [z, hlU] at hu; cases hu
          rw [w1, if_pos rfl, hlL, zi_nat (by omega)] at eRa
          have evl : upf (shD (shV (W sn))) rn d1 l = shD (W sn) l := by
            rw [show upf (shD (shV (W sn))) rn d1 l = shD (shV (W sn)) l from if_neg (Ne.symm ne)]
            exact if_pos hlZ
          have dl : dkAt g (othQ W sn + shQ (W sn)) (I9 l) (5 * sn + l) (shD (W sn) l) := by
            have z := sd1.2.2.1 l (by omega)
            rw [show upf I9 rn (I9 rn) l = I9 l from if_neg (Ne.symm ne)] at z
            have e : shD (shV (shSetD (W sn) (upf (shD (W sn)) rn d1))) l = shD (W sn) l := (if_pos hlZ).trans (if_neg (Ne.symm ne))
            rw [e] at z
            exact z
          have ids := uq0 rn l (by omega) (by omega)
          rw [evl, show upf I9 rn (I9 rn) l = I9 l from if_neg (Ne.symm ne), show upf I9 rn (I9 rn) rn = I9 rn from if_pos rfl, show upf (shD (shV (W sn))) rn d1 rn = d1 from if_pos rfl] at ids
          have hJ : (I9 l).length < 8191 := by
            rw [dl.2.1.1]
            have := (hI.2.2.1.2.1 l hlZ).1
            have := q_bound hI hY (by omega)
            omega
          obtain ⟨h1, e1, f1, a1⟩ := w_alike Hg (by omega : 5 * sn + rn < 20) (by omega : 5 * sn + l < 20) (by omega) dkn dl (by omega) hJ ids d1U d1T (Or.inl d1F)
          have f1s : frx (dsS sn) g h1 := f1.mono (fun a j z => ⟨rn, by omega, z⟩)
          have eL : dkL (dkAlike d1 (shD (W sn) l)) = (dkL (shD (W sn) l)).take (dkL (dkAlike d1 (shD (W sn) l))).length := by
            obtain ⟨j, -, z, -⟩ := dkAlike_or d1 (shD (W sn) l)
            rw [z, List.length_take, List.take_eq_take_iff]
            omega
          have uq1 : uqI (upf (upf I9 rn (I9 rn)) rn ((I9 l).take (dkL (dkAlike d1 (shD (W sn) l))).length)) (upf (shD (shV (shSetD (W sn) (upf (shD (W sn)) rn d1)))) rn (dkAlike d1 (shD (W sn) l))) := by
            refine uq_alike (n := (dkL (dkAlike d1 (shD (W sn) l))).length) (l := l) (by omega : rn < 5) (by omega : l < 5) sd1.2.2.2.1 ?_ ?_ (fun y hy => if_neg hy) (fun y hy => if_neg hy)
            · rw [show upf I9 rn (I9 rn) l = I9 l from if_neg (Ne.symm ne)]; exact if_pos rfl
            · rw [show upf (shD (shV (shSetD (W sn) (upf (shD (W sn)) rn d1)))) rn (dkAlike d1 (shD (W sn) l)) rn = dkAlike d1 (shD (W sn) l) from if_pos rfl, show shD (shV (shSetD (W sn) (upf (shD (W sn)) rn d1))) l = shD (W sn) l from (if_pos hlZ).trans (if_neg (Ne.symm ne))]
              exact eL
          have sd2 := sdAt_one (q := shSetD (W sn) (upf (shD (W sn)) rn d1)) sd1 hr f1 a1 uq1 (dkOK_alike _ d1O)
          have eU : shSetD (shSetD (W sn) (upf (shD (W sn)) rn d1)) (upf (shD (shSetD (W sn) (upf (shD (W sn)) rn d1))) rn (dkAlike d1 (shD (W sn) l))) = shRaise (W sn) rn := by
            rw [eRa]
            show shSetD (W sn) (upf (upf (shD (W sn)) rn d1) rn (dkAlike d1 (shD (W sn) l))) = _
            rw [upf_upf]
          rw [eU] at sd2
          have rL : shL (shRaise (W sn) rn) = shL (W sn) := rfl
          have ru := RS_disks (K1 := K + 1) hs RC (fs.trans f1s) (by omega) lI (by omega) sd2 rfl rfl rfl rfl
          have ft := (fs.trans f1s).mono (dsS_fp (N := totQ W))
          have RN := R1.1.act hK hs ft ru (fun _ n hn => RC2 cm n hn) (fun z => absurd z cm) (Nat.le_refl _)
          have so : stl vs (nI c) (shRaise (W sn) rn) = shRaise (W sn) rn := stl_off vs (nI c) (Or.inl cm)
          rw [so] at lT ⊢
          have fin := aftB_t (aft_act (r := 1) hK R1 e0 f0 RN (ft.mono (fpS_wd hs)) (WdT_act R1.2.2.1 lT))
          have dml : (nI l = -1) = False := eq_false (zi_ne1 (by omega))
          simp only [f_X11_power, o10, o00, bh, isO, inR, ck_true, bind_some9, Nat.reduceLeDiff, Nat.reduceEqDiff, and_self, and_true, true_and, false_and, and_false, not_false_eq_true, not_true_eq_false, or_self, or_false, false_or, if_true, if_false, reduceIte, RF_o H, RF_1232 H, RO_640 H, RL_640 H, RF_1234 H, RO_642 H, RL_642 H, RF_1236 H, RO_644 H, RL_644 H, RF_1237 H, RO_645 H, RL_645 H, zR_pE, zT_pE, zL_pE, zn_pE, zE_pE, zI_pE, zR_pI, zT_pI, zL_pI, zn_pI, zE_pI, zI_pI, eR, zi_five, nx, gx, lx, u1, ns, gs, ls, b1, hlL, dml, an11, o01, hg, e1]
          exact fin
/-! THE BYTES OF A DISK, IN THE REFERENCE -/
theorem w_byteOf (v : Int32) (k : Nat) (h : Hp) : f_X11_byteOf v (nI k) h = some (btO v k, h) := by
  unfold f_X11_byteOf btO
  rw [show (8 : Int32) * nI k = nI (8 * k) from zi_mul 8 k]
theorem w_disk_137 {h : Hp} (H : RF h) {i p : Nat} {r : Rec} (hi : i < 60000) (hr : rcAt h i r) (hp : p < 2000000000) : f_X11_disk_137 (nI i) 616 (nI p) h = some (rcBt r (p % 16), h) := by
  obtain ⟨r1, r2, r3, r4, r5⟩ := hr
  have em : nI p - nI p / (16 : Int32) * (16 : Int32) = nI (p % 16) := zi_mod (b := 16) (by omega) (by omega) (by omega)
  have hk : p % 16 < 16 := Nat.mod_lt _ (by decide)
  have ni : (nI i).toNatClampNeg = i := zi_nat (by omega)
  have gi : ¬ nI i < 0 := zi_neg (by omega)
  have li : ¬ 60000 ≤ i := by omega
  unfold rcBt
  generalize p % 16 = k at *
  have q0 : nI k = (0 : Int32) ↔ k = 0 := zi_eq (b := 0) (by omega) (by omega)
  have q3 : (3 : Int32) ≤ nI k ↔ 3 ≤ k := zi_le (a := 3) (by omega) (by omega)
  have q7 : (7 : Int32) ≤ nI k ↔ 7 ≤ k := zi_le (a := 7) (by omega) (by omega)
  have q11 : (11 : Int32) ≤ nI k ↔ 11 ≤ k := zi_le (a := 11) (by omega) (by omega)
  have q15 : nI k = (15 : Int32) ↔ k = 15 := zi_eq (b := 15) (by omega) (by omega)
  by_cases c0 : k = 0
  · rw [if_pos c0]
    have d := eq_true (q0.mpr c0)
    simp only [f_X11_disk_137, o10, o00, bh, isO, inR, ck_true, bind_some9, Nat.reduceLeDiff, Nat.reduceEqDiff, and_self, and_true, true_and, false_and, and_false, not_false_eq_true, not_true_eq_false, or_self, or_false, false_or, if_true, if_false, reduceIte, RF_o H, RF_1225 H, RO_633 H, RL_633 H, RF_1226 H, RO_634 H, RL_634 H, RF_1227 H, RO_635 H, RL_635 H, RF_1228 H, RO_636 H, RL_636 H, RF_1229 H, RO_637 H, RL_637 H, zR_pE, zT_pE, zL_pE, zn_pE, zE_pE, zI_pE, zR_pI, zT_pI, zL_pI, zn_pI, zE_pI, zI_pI, em, d, ni, gi, li, r1]
  · rw [if_neg c0]
    have d0 := eq_false (fun z => c0 (q0.mp z))
    by_cases c3 : k < 3
    · rw [if_pos c3]
      have d3 := eq_false (fun z => absurd (q3.mp z) (by omega))
      have e2 : (2 : Int32) - nI k = nI (2 - k) := zi_sub (a := 2) (by omega)
      simp only [f_X11_disk_137, o10, o00, bh, isO, inR, ck_true, bind_some9, Nat.reduceLeDiff, Nat.reduceEqDiff, and_self, and_true, true_and, false_and, and_false, not_false_eq_true, not_true_eq_false, or_self, or_false, false_or, if_true, if_false, reduceIte, RF_o H, RF_1225 H, RO_633 H, RL_633 H, RF_1226 H, RO_634 H, RL_634 H, RF_1227 H, RO_635 H, RL_635 H, RF_1228 H, RO_636 H, RL_636 H, RF_1229 H, RO_637 H, RL_637 H, zR_pE, zT_pE, zL_pE, zn_pE, zE_pE, zI_pE, zR_pI, zT_pI, zL_pI, zn_pI, zE_pI, zI_pI, em, d0, d3, ni, gi, li, r2, e2, w_byteOf]
    · rw [if_neg c3]
      have d3 := eq_true (q3.mpr (by omega))
      by_cases c15 : k = 15
      · rw [if_pos c15]
        have d15 := eq_true (q15.mpr c15)
        simp only [f_X11_disk_137, o10, o00, bh, isO, inR, ck_true, bind_some9, Nat.reduceLeDiff, Nat.reduceEqDiff, and_self, and_true, true_and, false_and, and_false, not_false_eq_true, not_true_eq_false, or_self, or_false, false_or, if_true, if_false, reduceIte, RF_o H, RF_1225 H, RO_633 H, RL_633 H, RF_1226 H, RO_634 H, RL_634 H, RF_1227 H, RO_635 H, RL_635 H, RF_1228 H, RO_636 H, RL_636 H, RF_1229 H, RO_637 H, RL_637 H, zR_pE, zT_pE, zL_pE, zn_pE, zE_pE, zI_pE, zR_pI, zT_pI, zL_pI, zn_pI, zE_pI, zI_pI, em, d0, d3, d15]
      · rw [if_neg c15]
        have d15 := eq_false (fun z => c15 (q15.mp z))
        have s3 : nI k - (3 : Int32) = nI (k - 3) := zi_sub (b := 3) (by omega)
        have s4 : nI (k - 3) - nI (k - 3) / (4 : Int32) * (4 : Int32) = nI ((k - 3) % 4) := zi_mod (b := 4) (by omega) (by omega) (by omega)
        have s5 : (3 : Int32) - nI ((k - 3) % 4) = nI (3 - (k - 3) % 4) := zi_sub (a := 3) (by omega)
        by_cases c7 : k < 7
        · rw [if_pos c7]
          have d7 := eq_false (fun z => absurd (q7.mp z) (by omega))
          simp only [f_X11_disk_137, o10, o00, bh, isO, inR, ck_true, bind_some9, Nat.reduceLeDiff, Nat.reduceEqDiff, and_self, and_true, true_and, false_and, and_false, not_false_eq_true, not_true_eq_false, or_self, or_false, false_or, if_true, if_false, reduceIte, RF_o H, RF_1225 H, RO_633 H, RL_633 H, RF_1226 H, RO_634 H, RL_634 H, RF_1227 H, RO_635 H, RL_635 H, RF_1228 H, RO_636 H, RL_636 H, RF_1229 H, RO_637 H, RL_637 H, zR_pE, zT_pE, zL_pE, zn_pE, zE_pE, zI_pE, zR_pI, zT_pI, zL_pI, zn_pI, zE_pI, zI_pI, em, d0, d3, d15, d7, ni, gi, li, r3, s3, s4, s5, w_byteOf]
        · rw [if_neg c7]
          have d7 := eq_true (q7.mpr (by omega))
          by_cases c11 : k < 11
          · rw [if_pos c11]
            have d11 := eq_false (fun z => absurd (q11.mp z) (by omega))
            simp only [f_X11_disk_137, o10, o00, bh, isO, inR, ck_true, bind_some9, Nat.reduceLeDiff, Nat.reduceEqDiff, and_self, and_true, true_and, false_and, and_false, not_false_eq_true, not_true_eq_false, or_self, or_false, false_or, if_true, if_false, reduceIte, RF_o H, RF_1225 H, RO_633 H, RL_633 H, RF_1226 H, RO_634 H, RL_634 H, RF_1227 H, RO_635 H, RL_635 H, RF_1228 H, RO_636 H, RL_636 H, RF_1229 H, RO_637 H, RL_637 H, zR_pE, zT_pE, zL_pE, zn_pE, zE_pE, zI_pE, zR_pI, zT_pI, zL_pI, zn_pI, zE_pI, zI_pI, em, d0, d3, d15, d7, d11, ni, gi, li, r4, s3, s4, s5, w_byteOf]
          · rw [if_neg c11]
            have d11 := eq_true (q11.mpr (by omega))
            simp only [f_X11_disk_137, o10, o00, bh, isO, inR, ck_true, bind_some9, Nat.reduceLeDiff, Nat.reduceEqDiff, and_self, and_true, true_and, false_and, and_false, not_false_eq_true, not_true_eq_false, or_self, or_false, false_or, if_true, if_false, reduceIte, RF_o H, RF_1225 H, RO_633 H, RL_633 H, RF_1226 H, RO_634 H, RL_634 H, RF_1227 H, RO_635 H, RL_635 H, RF_1228 H, RO_636 H, RL_636 H, RF_1229 H, RO_637 H, RL_637 H, zR_pE, zT_pE, zL_pE, zn_pE, zE_pE, zI_pE, zR_pI, zT_pI, zL_pI, zn_pI, zE_pI, zI_pI, em, d0, d3, d15, d7, d11, ni, gi, li, r5, s3, s4, s5, w_byteOf]
theorem w_disk {vs : Nat → List Prg} {c : Nat} {TX : List (Nat × Nat × Nat × Prg)} {K tk : Nat} {h : Hp} {W : Wld} (hK : K ≤ 1600) (R : RT vs c TX K tk h W) (hT : ∀ s r, s < 4 → dkT (shD (W s) r) < 16) (s r b i : Int32) : aft vs c TX K tk h W 0 (wdDisk W s r b i) (f_X11_disk 616 s r b i h) := by
  obtain ⟨R0, e0, f0⟩ := R.th (by omega) 0
  obtain ⟨G, tb, bs⟩ := R.1.base (by omega)
  have H := G.1
  have H0 := (R0.1.base hK).1.1
  have stay : ∀ r : Int32, aft vs c TX K tk h W 0 r (some (r, pI h 1200 616 0)) := fun r => ⟨_, rfl, e0, R0, f0⟩
  have eR := w_isReplica R0.1 hK s r
  unfold wdDisk
  cases er : rplc W s r with
  | none =>
    rw [er] at eR
    have eR : f_X11_isReplica 616 s r (pI h 1200 616 0) = some (0, pI h 1200 616 0) := eR
    simp only [f_X11_disk, o10, o00, bh, isO, inR, ck_true, bind_some9, Nat.reduceLeDiff, Nat.reduceEqDiff, and_self, and_true, true_and, false_and, and_false, not_false_eq_true, not_true_eq_false, or_self, or_false, false_or, if_true, if_false, reduceIte, RF_o H, RF_1230 H, RO_638 H, RL_638 H, RF_1231 H, RO_639 H, RL_639 H, RF_1232 H, RO_640 H, RL_640 H, RF_1233 H, RO_641 H, RL_641 H, zR_pE, zT_pE, zL_pE, zn_pE, zE_pE, zI_pE, zR_pI, zT_pI, zL_pI, zn_pI, zE_pI, zI_pI, eR]
    exact stay _
  | some sr =>
    obtain ⟨sn, rn⟩ := sr
    rw [er] at eR
    have eR : f_X11_isReplica 616 s r (pI h 1200 616 0) = some (1, pI h 1200 616 0) := eR
    obtain ⟨hs, hr, rfl, rfl, -, -⟩ := rplc_some er (R.1.Z hK)
    have z5 := R.1.Z hK sn hs
    obtain ⟨⟨I, dk⟩, -⟩ := R.1.disk hs hr
    have hT := hT sn rn hs
    obtain ⟨⟨u1, u2, u3, u4⟩, ⟨u5, u6⟩, u7, u8, u9⟩ := dk
    have nx : (nI (5 * sn + rn)).toNatClampNeg = 5 * sn + rn := zi_nat (by omega)
    have gx : ¬ nI (5 * sn + rn) < 0 := zi_neg (by omega)
    have lx : ¬ 20 ≤ 5 * sn + rn := by omega
    simp only []
    by_cases cb : b < 0 ∨ (256 : Int32) ≤ b
    · have ei := w_no (h := pI h 1200 616 0) cb
      rw [if_pos (by rcases cb with z | z; exact Or.inl z; exact Or.inr (Or.inl z))]
      simp only [f_X11_disk, o10, o00, bh, isO, inR, ck_true, bind_some9, Nat.reduceLeDiff, Nat.reduceEqDiff, and_self, and_true, true_and, false_and, and_false, not_false_eq_true, not_true_eq_false, or_self, or_false, false_or, if_true, if_false, reduceIte, RF_o H, RF_1230 H, RO_638 H, RL_638 H, RF_1231 H, RO_639 H, RL_639 H, RF_1232 H, RO_640 H, RL_640 H, RF_1233 H, RO_641 H, RL_641 H, zR_pE, zT_pE, zL_pE, zn_pE, zE_pE, zI_pE, zR_pI, zT_pI, zL_pI, zn_pI, zE_pI, zI_pI, eR, ei]
      exact stay _
    · have ei := w_yes (h := pI h 1200 616 0) cb
      by_cases ci : i < 0 ∨ (512 : Int32) ≤ i
      · have ei2 := w_no (h := pI h 1200 616 0) ci
        rw [if_pos (Or.inr (Or.inr ci))]
        simp only [f_X11_disk, o10, o00, bh, isO, inR, ck_true, bind_some9, Nat.reduceLeDiff, Nat.reduceEqDiff, and_self, and_true, true_and, false_and, and_false, not_false_eq_true, not_true_eq_false, or_self, or_false, false_or, if_true, if_false, reduceIte, RF_o H, RF_1230 H, RO_638 H, RL_638 H, RF_1231 H, RO_639 H, RL_639 H, RF_1232 H, RO_640 H, RL_640 H, RF_1233 H, RO_641 H, RL_641 H, zR_pE, zT_pE, zL_pE, zn_pE, zE_pE, zI_pE, zR_pI, zT_pI, zL_pI, zn_pI, zE_pI, zI_pI, eR, ei, ei2]
        exact stay _
      · have ei2 := w_yes (h := pI h 1200 616 0) ci
        rw [if_neg (by rintro (z | z | z | z); exact cb (Or.inl z); exact cb (Or.inr z); exact ci (Or.inl z); exact ci (Or.inr z))]
        obtain ⟨bn, bn1, rfl⟩ := zi_of (fun z => cb (Or.inl z))
        have hb : bn < 256 := by
          have : ¬ nI 256 ≤ nI bn := fun z => cb (Or.inr z)
          rw [zi_le (by omega) bn1] at this
          omega
        obtain ⟨jn, jn1, rfl⟩ := zi_of (fun z => ci (Or.inl z))
        have hj : jn < 512 := by
          have : ¬ nI 512 ≤ nI jn := fun z => ci (Or.inr z)
          rw [zi_le (by omega) jn1] at this
          omega
        rw [zi_nat bn1, zi_nat jn1]
        have e1 : (16 : Int32) * nI (dkL (shD (W sn) rn)).length + nI (dkT (shD (W sn) rn)) = nI (dkSz (shD (W sn) rn)) := by rw [show (16 : Int32) = nI 16 from rfl, zi_mul, zi_add]; rfl
        have e2 : nI (512 * bn) + nI jn = nI (512 * bn + jn) := zi_add _ _
        have e3 : (512 : Int32) * nI bn = nI (512 * bn) := zi_mul 512 bn
        have hz : dkSz (shD (W sn) rn) < 16 * 8192 + 16 := by unfold dkSz; omega
        have q1 : nI (512 * bn) < nI (dkSz (shD (W sn) rn)) ↔ 512 * bn < dkSz (shD (W sn) rn) := zi_lt (by omega) (by omega)
        have q2 : nI (512 * bn + jn) < nI (dkSz (shD (W sn) rn)) ↔ 512 * bn + jn < dkSz (shD (W sn) rn) := zi_lt (by omega) (by omega)
        have ed : nI (512 * bn + jn) / (16 : Int32) = nI ((512 * bn + jn) / 16) := zi_div (b := 16) (by omega) (by omega) (by omega)
        by_cases c1 : 512 * bn < dkSz (shD (W sn) rn)
        · have d1 := eq_true (q1.mpr c1)
          rw [if_pos c1]
          by_cases c2 : 512 * bn + jn < dkSz (shD (W sn) rn)
          · have d2 := eq_true (q2.mpr c2)
            rw [if_pos c2]
            have q3 : nI (dkL (shD (W sn) rn)).length ≤ nI ((512 * bn + jn) / 16) ↔ (dkL (shD (W sn) rn)).length ≤ (512 * bn + jn) / 16 := zi_le (by omega) (by omega)
            unfold dkBt
            by_cases c3 : (512 * bn + jn) / 16 < (dkL (shD (W sn) rn)).length
            · have d3 := eq_false (fun z => absurd (q3.mp z) (by omega))
              rw [if_pos c3]
              have hI1 : I[(512 * bn + jn) / 16]? = some (I[(512 * bn + jn) / 16]'(by omega)) := List.getElem?_eq_getElem (by omega)
              have hL1 := List.getElem?_eq_getElem c3
              have hid := u8 _ _ _ hI1 hL1
              have h38 := u7 _ _ hI1
              generalize I[(512 * bn + jn) / 16]'(by omega) = ii at *
              have er9 : (dkL (shD (W sn) rn)).getD ((512 * bn + jn) / 16) (0, 0, 0, 0, 0, 0) = (dkL (shD (W sn) rn))[(512 * bn + jn) / 16]'c3 := by rw [List.getD_eq_getElem?_getD, hL1]; rfl
              rw [er9]
              have hi6 : ii < 60000 := by have := hid.1; omega
              have e137 := w_disk_137 H0 hi6 (hid.2.on (tpS_0 h 0) (fun a => by omega)) (by omega : 512 * bn + jn < 2000000000)
              have n8 : (nI (8192 * (5 * sn + rn) + (512 * bn + jn) / 16)).toNatClampNeg = 8192 * (5 * sn + rn) + (512 * bn + jn) / 16 := zi_nat (by omega)
              have g8 : ¬ nI (8192 * (5 * sn + rn) + (512 * bn + jn) / 16) < 0 := zi_neg (by omega)
              have l8 : ¬ 163840 ≤ 8192 * (5 * sn + rn) + (512 * bn + jn) / 16 := by omega
              simp only [f_X11_disk, o10, o00, bh, isO, inR, ck_true, bind_some9, Nat.reduceLeDiff, Nat.reduceEqDiff, and_self, and_true, true_and, false_and, and_false, not_false_eq_true, not_true_eq_false, or_self, or_false, false_or, if_true, if_false, reduceIte, RF_o H, RF_1230 H, RO_638 H, RL_638 H, RF_1231 H, RO_639 H, RL_639 H, RF_1232 H, RO_640 H, RL_640 H, RF_1233 H, RO_641 H, RL_641 H, zR_pE, zT_pE, zL_pE, zn_pE, zE_pE, zI_pE, zR_pI, zT_pI, zL_pI, zn_pI, zE_pI, zI_pI, eR, ei, ei2, zi_five, nx, gx, lx, u3, u4, e1, e2, e3, d1, d2, ed, d3, zi_big, n8, g8, l8, h38, e137]
              exact stay _
            · have d3 := eq_true (q3.mpr (by omega))
              rw [if_neg c3]
              have t0 : dkT (shD (W sn) rn) ≠ 0 := by unfold dkSz at c2; omega
              obtain ⟨ii, i1, i2⟩ := u9 t0
              have hi6 : ii < 60000 := by have := i2.1; omega
              have e137 := w_disk_137 H0 hi6 (i2.2.on (tpS_0 h 0) (fun a => by omega)) (by omega : 512 * bn + jn < 2000000000)
              simp only [f_X11_disk, o10, o00, bh, isO, inR, ck_true, bind_some9, Nat.reduceLeDiff, Nat.reduceEqDiff, and_self, and_true, true_and, false_and, and_false, not_false_eq_true, not_true_eq_false, or_self, or_false, false_or, if_true, if_false, reduceIte, RF_o H, RF_1230 H, RO_638 H, RL_638 H, RF_1231 H, RO_639 H, RL_639 H, RF_1232 H, RO_640 H, RL_640 H, RF_1233 H, RO_641 H, RL_641 H, zR_pE, zT_pE, zL_pE, zn_pE, zE_pE, zI_pE, zR_pI, zT_pI, zL_pI, zn_pI, zE_pI, zI_pI, eR, ei, ei2, zi_five, nx, gx, lx, u3, u4, e1, e2, e3, d1, d2, ed, d3, i1, e137]
              exact stay _
          · have d2 := eq_false (fun z => c2 (q2.mp z))
            rw [if_neg c2]
            simp only [f_X11_disk, o10, o00, bh, isO, inR, ck_true, bind_some9, Nat.reduceLeDiff, Nat.reduceEqDiff, and_self, and_true, true_and, false_and, and_false, not_false_eq_true, not_true_eq_false, or_self, or_false, false_or, if_true, if_false, reduceIte, RF_o H, RF_1230 H, RO_638 H, RL_638 H, RF_1231 H, RO_639 H, RL_639 H, RF_1232 H, RO_640 H, RL_640 H, RF_1233 H, RO_641 H, RL_641 H, zR_pE, zT_pE, zL_pE, zn_pE, zE_pE, zI_pE, zR_pI, zT_pI, zL_pI, zn_pI, zE_pI, zI_pI, eR, ei, ei2, zi_five, nx, gx, lx, u3, u4, e1, e2, e3, d1, d2]
            exact stay _
        · have d1 := eq_false (fun z => c1 (q1.mp z))
          rw [if_neg c1]
          simp only [f_X11_disk, o10, o00, bh, isO, inR, ck_true, bind_some9, Nat.reduceLeDiff, Nat.reduceEqDiff, and_self, and_true, true_and, false_and, and_false, not_false_eq_true, not_true_eq_false, or_self, or_false, false_or, if_true, if_false, reduceIte, RF_o H, RF_1230 H, RO_638 H, RL_638 H, RF_1231 H, RO_639 H, RL_639 H, RF_1232 H, RO_640 H, RL_640 H, RF_1233 H, RO_641 H, RL_641 H, zR_pE, zT_pE, zL_pE, zn_pE, zE_pE, zI_pE, zR_pI, zT_pI, zL_pI, zn_pI, zE_pI, zI_pI, eR, ei, ei2, zi_five, nx, gx, lx, u3, u4, e1, e2, e3, d1]
          exact stay _
theorem w_tickT {vs : Nat → List Prg} {c : Nat} {TX : List (Nat × Nat × Nat × Prg)} {K tk : Nat} {h : Hp} {W : Wld} (hvs : vsOK vs) (hdg : vsDg vs) (hK : K ≤ 1600) (htk : tk < 1000000) (R : RT vs c TX K tk h W) (n : Int32) : (n < 1 ∨ 500 < n → aft vs c TX K tk h W 1 0 (f_X11_tick 616 n h)) ∧ (¬ (n < 1 ∨ 500 < n) → aft vs (c + n.toNatClampNeg) TX K tk h (wdTicks vs n.toNatClampNeg c W) 0 (nI (c + n.toNatClampNeg)) (f_X11_tick 616 n h)) := by
  have H := (R.1.base hK).1.1
  refine ⟨fun cn => ?_, fun cn => ?_⟩
  · obtain ⟨R0, e0, f0⟩ := R.th hK 1
    have hT : f_X11_tick 616 n h = f_X11_tick_18 616 1 616 n h := by
      unfold f_X11_tick f_X11_tick_13
      by_cases c1 : n < 1
      · rw [if_pos c1]
      · rw [if_neg c1, if_neg (Int32.not_le.mpr (cn.resolve_left c1))]
    obtain ⟨f, hf⟩ : ∃ f, fz = f + 1 := ⟨999999, rfl⟩
    have hh : f_X11_tick 616 n h = some (0, pI h 1200 616 1) := by
      rw [hT]
      unfold f_X11_tick_18
      rw [ck_yes (RF_o H)]
      show f_X11_tick_23 fz 616 n 0 (pI h 1200 616 1) = _
      rw [hf]
      have H1 := H.on f0
      have z1 : zI (pI h 1200 616 1) 1200 616 = 1 := e0
      unfold f_X11_tick_23
      by_cases c0 : n ≤ 0
      · rw [if_pos c0, ck_yes (RF_o H1), z1, if_neg (show ¬ (1 : Int32) ≤ 0 by decide)]
      · rw [if_neg c0, ck_yes (RF_o H1), z1, if_neg (show ¬ (1 : Int32) = 0 by decide), if_neg (show ¬ (1 : Int32) ≤ 0 by decide)]
    rw [hh]
    exact ⟨_, rfl, e0, R0, f0⟩
  · obtain ⟨R0, e0, f0⟩ := R.th hK 0
    have n0 : ¬ n < 0 := fun z => cn (Or.inl (Int32.lt_trans z (by decide)))
    obtain ⟨m, m1, rfl⟩ := zi_of n0
    have hm1 : 1 ≤ m := by
      have : ¬ nI m < nI 1 := fun z => cn (Or.inl z)
      rw [zi_lt m1 (by omega)] at this
      omega
    have hm5 : m ≤ 500 := by
      have : ¬ nI 500 < nI m := fun z => cn (Or.inr z)
      rw [zi_lt (by omega) m1] at this
      omega
    rw [zi_nat m1]
    obtain ⟨h1, a1, a2, a3, a4⟩ := w_tick_23 hvs hdg hK htk hm5 m 0 c fz (pI h 1200 616 0) W R0 e0 (by omega) (fz_big (by omega))
    have hh : f_X11_tick 616 (nI m) h = some (nI (c + m), h1) := by
      unfold f_X11_tick
      rw [if_neg (fun z => cn (Or.inl z)), if_pos (Int32.not_lt.mp (fun z => cn (Or.inr z)))]
      unfold f_X11_tick_18
      rw [ck_yes (RF_o H)]
      exact (congrArg (fun z => f_X11_tick_23 fz 616 (nI m) z (pI h 1200 616 0)) zi_zero).trans a1
    rw [hh]
    exact ⟨h1, rfl, a2, a3, f0.trans a4⟩
