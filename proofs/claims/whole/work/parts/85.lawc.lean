/-! THE START, AND THE WHOLE -/
theorem init_RW {h : Hp} (H : RF h) (eI : ∀ f, zI h f 616 = if f = 1205 then -1 else 0) (e0 : ∀ a j, 617 ≤ a → a ≤ 670 → a ≠ 622 → ¬ frA a → zE h a j = 0) (f0 : ∀ s, s < 4 → fr0 h s) : RW (fun _ => []) (nI 0) [] 0 h (fun _ => sh0) := fun s hs => by
  obtain ⟨⟨a1, a2⟩, a3⟩ := f0 s hs
  obtain ⟨S, Y⟩ := sh0_S (fun _ => ([] : List Prg))
  refine ⟨[], ⟨⟨H, ?_, ?_, ⟨by show 0 ≤ 4100; omega, (fun t x hx => by cases hx), (fun p v P hp hv => by cases hv)⟩, ⟨Nat.le_trans (Nat.sub_le _ _) (show totQ (fun _ => sh0) ≤ 50000 by decide), by omega⟩, fun p hp => by show 0 ≤ 4100; omega⟩, ⟨S.1, by rw [Y]; exact Nat.zero_le _⟩, fun _ => [], fun _ => [], ⟨⟨a1, a2, ?_⟩, ⟨Nat.le_refl _, by show 3 ≤ 5; omega, by show 0 < 60000; omega⟩, fun r hr => ?_, fun x y hx hy => ⟨?_, ?_, (fun k i j p q hk => by cases hk)⟩, fun r hr => ?_⟩, ⟨⟨?_, by show 0 ≤ 16; omega⟩, fun n hn hn2 => e0 660 _ (by omega) (by omega) (by omega) (by unfold frA; omega)⟩, (fun n hn => by cases hn), ?_, by show 0 ≤ 1000; omega, (fun k m hk => by cases hk)⟩, S.2.1, S.2.2⟩
  · rw [eI, if_neg (by omega)]; rfl
  · rw [eI, if_neg (by omega)]; rfl
  · exact e0 646 s (by omega) (by omega) (by omega) (by unfold frA; omega)
  · obtain ⟨d1, d2, d3⟩ := a3 r hr
    have e39 := e0 639 (5 * s + r) (by omega) (by omega) (by omega) (by unfold frA; omega)
    by_cases c : r < 3
    · have e : shD (shV sh0) r = ([], true, -1, 0, (0, 0, 0, 0, 0, 0)) := if_pos c
      rw [e]
      rw [if_pos c] at d1
      exact ⟨⟨d1, d2, e39, d3⟩, ⟨rfl, by show 0 < 8192; omega⟩, (fun k i hk => by cases hk), (fun k i q hk => by cases hk), fun z => absurd rfl z⟩
    · have e : shD (shV sh0) r = ([], false, -1, 0, (0, 0, 0, 0, 0, 0)) := if_neg c
      rw [e]
      rw [if_neg c] at d1
      exact ⟨⟨d1, d2, e39, d3⟩, ⟨rfl, by show 0 < 8192; omega⟩, (fun k i hk => by cases hk), (fun k i q hk => by cases hk), fun z => absurd rfl z⟩
  · show 0 = (dkL (shD (shV sh0) x)).length
    by_cases c : x < 3
    · rw [show shD (shV sh0) x = ([], true, -1, 0, (0, 0, 0, 0, 0, 0)) from if_pos c]; rfl
    · rw [show shD (shV sh0) x = ([], false, -1, 0, (0, 0, 0, 0, 0, 0)) from if_neg c]; rfl
  · show 0 = (dkL (shD (shV sh0) y)).length
    by_cases c : y < 3
    · rw [show shD (shV sh0) y = ([], true, -1, 0, (0, 0, 0, 0, 0, 0)) from if_pos c]; rfl
    · rw [show shD (shV sh0) y = ([], false, -1, 0, (0, 0, 0, 0, 0, 0)) from if_neg c]; rfl
  · by_cases c : r < 3
    · rw [show shD (shV sh0) r = ([], true, -1, 0, (0, 0, 0, 0, 0, 0)) from if_pos c]
      exact fun _ => ⟨rfl, Or.inl rfl⟩
    · rw [show shD (shV sh0) r = ([], false, -1, 0, (0, 0, 0, 0, 0, 0)) from if_neg c]
      exact fun _ => ⟨rfl, Or.inl rfl⟩
  · exact e0 647 s (by omega) (by omega) (by omega) (by unfold frA; omega)
  · exact e0 665 s (by omega) (by omega) (by omega) (by unfold frA; omega)
theorem init_CL {k h : Hp} (f : cf (fun _ _ => False) k h) (hz : 672 ≤ zn h) (tp : tpC k) (tt : tpT k []) (e4 : zI k 405 9 = -1) (e11 : zI k 1104 8 = 0) (ck : isO k 14 1 ∧ zI k 100 14 = 0) (o15 : isO k 15 27 ∧ zL k 15 = 8) (sl : ∀ p, p < 8 → slfC k p) (sh : ∀ s, s < 4 → shC k ow0 s (fun _ => 1) 1 sh0) : CL (fun _ => []) (nI 0) h ow0 (fun _ _ => 1) (fun _ => 1) (fun _ => sh0) [] (-1) 0 := by
  have no : ∀ (a j : Nat), ¬ (fun _ _ => False : Nat → Nat → Prop) a j := fun _ _ z => z
  have sl1 : ∀ p, p < 8 → slfC h p := fun p hp => (sl p hp).on o15.1 f (fun z => z) (fun _ _ _ z => z)
  refine ⟨⟨⟨owS0, hz, ⟨⟨f.O o15.1, (f.L o15.1).trans o15.2⟩, fun p hp => ?_⟩, f.O ck.1, (f.I ck.1 (fun z => z)).trans ck.2⟩, tp.on f (fun _ _ _ z => z) (fun _ z => z), fun s hs => (sh s hs).off owS0 hs f (exO.rf _ _) (fun _ _ _ z => z)⟩, tt.on f (fun _ _ _ z => z) (fun _ z => z), (f.I tt.1.1 (fun z => z)).trans e4, (f.I tp.1.1 (fun z => z)).trans e11, ⟨fun p hp _ => (sl1 p hp).2.2.2.2.2, fun p q _ _ _ z => absurd rfl z, fun p _ z => absurd rfl z⟩⟩
  obtain ⟨q1, q2, q3, q4, q5, q6⟩ := sl1 p hp
  exact ⟨q1, q2, q3, q4, q5, _, rfl, fun z => absurd rfl z, (fun k P hk => by cases hk)⟩
theorem init_RX {h : Hp} (H : RF h) (eI : ∀ f, zI h f 616 = if f = 1205 then -1 else 0) (e0 : ∀ a j, 617 ≤ a → a ≤ 670 → a ≠ 622 → ¬ frA a → zE h a j = 0) : RX (fun _ => []) [] h [] (-1) 0 := by
  have z : ∀ a j, 623 ≤ a → a ≤ 630 → zE h a j = 0 := fun a j h1 h2 => e0 a j (by omega) (by omega) (by omega) (by unfold frA; omega)
  refine ⟨⟨H, txt0, ?_, (fun k c hk => by cases hk)⟩, ?_, ?_, ⟨?_, (fun x hx => by cases hx)⟩, fun p _ => z 623 p (by omega) (by omega), fun K => ⟨⟨0, by omega, z 625 K (by omega) (by omega)⟩, Or.inl (z 626 K (by omega) (by omega)), Or.inl (z 628 K (by omega) (by omega))⟩⟩
  · rw [eI, if_neg (by omega)]; rfl
  · rw [eI, if_pos rfl]
  · rw [eI, if_neg (by omega)]; rfl
  · rw [eI, if_neg (by omega)]; rfl
theorem kN1112 : kN 11 ≤ 100 ∧ kN 12 ≤ 100 := by decide
theorem law_start (SL : Nat) (xs : Nat → Int32) : ∃ h, f_L_law SL xs 1 h00 = f_L_law_23 SL xs fz 1 8 616 671 (nI (5 * 0)) h ∧ LSt 0 h := by
  have A := mk_pN (h := h00) (t := 11) (n := kN 11) (x := 8) rfl (by omega)
  obtain ⟨k, k1, k2, k3, k4, k5, k6, k7, k8, k9, k10, k11⟩ := i_class A.oo A.nn A.zz
  have B := mk_pN (h := k) (t := 12) (n := kN 12) k2 (by omega)
  obtain ⟨r, r1, r2, r3, r4, r5, r6, r7, r8, r9⟩ := i_ref B.oo B.nn B.zz
  have D := mk_pN (h := r) (t := 24) (n := 1) r2 (by omega)
  have e : f_L_law SL xs 1 h00 = f_L_law_23 SL xs fz 1 8 616 671 0 (pN r 24 1) := by
    unfold f_L_law
    rw [show zn h00 = 8 from rfl, ck_yes (by omega), bhE, ck_yes A.oo, k1, bind_some9, bhE, k2, ck_yes (by omega), bhE, ck_yes B.oo, r1, bind_some9, bhE, r2, ck_yes (by omega), bhE, bhE]
    rfl
  have fr : cf (fun a _ => a = 616) k r := (B.cc _).tr r4
  have fk : cf (fun _ _ => False) k (pN r 24 1) := (fr.mono (S1 := fun _ _ => False) (fun a j ha z => by omega)).tr (D.cc _)
  have fD := D.cc (fun _ _ => False)
  have sm : ∀ a, 616 ≤ a → a < 671 → zT (pN r 24 1) a = zT r a ∧ zL (pN r 24 1) a = zL r a ∧ ∀ j, zI (pN r 24 1) j a = zI r j a ∧ zR (pN r 24 1) j a = zR r j a ∧ zE (pN r 24 1) a j = zE r a j := fun a h1 h2 => by
    have t := fD.2.1 a (by omega)
    refine ⟨t.1, t.2, fun j => ?_⟩
    obtain ⟨d1, d2, -, d4, -⟩ := fD.2.2 a j (by omega) (fun z => z)
    exact ⟨d1, d2, d4⟩
  have zD := D.nn
  have sD := D.ss
  have oD := D.oo
  have lD := D.ll
  generalize pN r 24 1 = h at *
  have H : RF h := by
    obtain ⟨q1, q2, q3⟩ := r5
    refine ⟨by omega, (sm 616 (by omega) (by omega)).1.trans q2, fun i hi => ?_⟩
    obtain ⟨a1, a2, a3⟩ := q3 i hi
    exact ⟨((sm 616 (by omega) (by omega)).2.2 _).2.1.trans a1, (sm _ (by omega) (by omega)).1.trans a2, (sm _ (by omega) (by omega)).2.1.trans a3⟩
  have eI : ∀ f, zI h f 616 = if f = 1205 then -1 else 0 := fun f => ((sm 616 (by omega) (by omega)).2.2 f).1.trans (r6 f)
  have eE : ∀ a j, 617 ≤ a → a ≤ 670 → zE h a j = zE r a j := fun a j h1 h2 => ((sm a (by omega) (by omega)).2.2 j).2.2
  have e0 : ∀ a j, 617 ≤ a → a ≤ 670 → a ≠ 622 → ¬ frA a → zE h a j = 0 := fun a j h1 h2 h3 h4 => (eE a j h1 h2).trans (r7 a j h1 h2 h3 h4)
  have f0 : ∀ s, s < 4 → fr0 h s := fun s hs => by
    obtain ⟨⟨a1, a2⟩, a3⟩ := r9 s hs
    refine ⟨⟨(eE _ _ (by omega) (by omega)).trans a1, (eE _ _ (by omega) (by omega)).trans a2⟩, fun x hx => ?_⟩
    obtain ⟨b1, b2, b3⟩ := a3 x hx
    exact ⟨(eE _ _ (by omega) (by omega)).trans b1, (eE _ _ (by omega) (by omega)).trans b2, (eE _ _ (by omega) (by omega)).trans b3⟩
  have C := init_CL fk (by omega) k4 k5 k6 k7 k8 k9 k10 k11
  have R : RT (fun _ => []) 0 [] 0 0 h (fun _ => sh0) := by
    refine ⟨init_RW H eI e0 f0, fun p hp => ⟨fun _ => (eE _ _ (by omega) (by omega)).trans (r8 p hp), fun z => absurd rfl z⟩, ⟨(fun s n _ hn => by cases hn), (fun s n s1 n1 _ _ hn => by cases hn)⟩, ?_⟩
    rw [eI, if_neg (by omega)]; rfl
  have u0 : usm (fun _ _ => 1) = 20 := by decide
  have v0 : sum4 (fun _ => 1) = 4 := by decide
  refine ⟨h, e, (fun _ => []), 0, [], 0, 0, [], -1, 0, (fun _ => sh0), ow0, (fun _ _ => 1), (fun _ => 1), ⟨C, R, init_RX H eI e0⟩, ⟨oD, lD⟩, ⟨fun p _ => ⟨by show 0 ≤ 4100; omega, (fun P hP => by cases hP)⟩, (fun p _ P hP => by cases hP)⟩, ⟨⟨by omega, by omega, by omega, by show 3 * 0 + 0 ≤ _; omega, by show 0 ≤ _; omega⟩, fun p _ => by show 0 ≤ _; omega⟩, ?_, ?_⟩
  · have := A.ss
    have := B.ss
    have z0 : zs h00 = 0 := rfl
    have kk := kN1112
    omega
  · omega
theorem LSt.z {n : Nat} {h : Hp} (L : LSt n h) (hn : n ≤ 512) : zn h ≤ 8 + 601024 ∧ zs h ≤ 7293034 := by
  obtain ⟨vs, c, TX, KK, tk, T, fa, St, W, own, u, v, ⟨C, -⟩, -, -, -, l5, l6⟩ := L
  have us : ∀ s, s < 4 → usum (u s) ≤ 1300 ∧ v s ≤ 200 := fun s hs => by
    obtain ⟨-, -, k3, -, -, k6⟩ := C.1.2.2 s hs
    have ur : ∀ r, r < 5 → u s r ≤ 260 := fun r hr => by
      obtain ⟨B, y, -⟩ := k3 r hr
      exact y.1.2.2.1.2.2.2.2
    obtain ⟨a, b, d, -, -, -, ⟨-, -, -, -, hv⟩, -⟩ := k6
    have := ur 0 (by omega)
    have := ur 1 (by omega)
    have := ur 2 (by omega)
    have := ur 3 (by omega)
    have := ur 4 (by omega)
    unfold usum
    exact ⟨by omega, hv⟩
  have a0 := us 0 (by omega)
  have a1 := us 1 (by omega)
  have a2 := us 2 (by omega)
  have a3 := us 3 (by omega)
  have e1 : usm u = usum (u 0) + usum (u 1) + usum (u 2) + usum (u 3) := rfl
  have e2 : sum4 v = v 0 + v 1 + v 2 + v 3 := rfl
  omega
/-- what was owed -/
theorem owed : Owed := fun SL xs hS => by
  obtain ⟨h, e, L⟩ := law_start SL xs
  obtain ⟨h1, x1, x2⟩ := law_loop (xs := xs) hS (SL / 5) 0 fz h (by omega) (fz_big (by omega)) L
  obtain ⟨z1, z2⟩ := x2.z (by omega)
  exact ⟨h1, e.trans x1, z1, z2⟩
