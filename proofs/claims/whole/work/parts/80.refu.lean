/-! THE REFERENCE'S PARSER BETWEEN CALLS -/
def RX (vs : Nat → List Prg) (TX : List (Nat × Nat × Nat × Prg)) (h : Hp) (T : List Int32) (fa : Int32) (St : Nat) : Prop := (RF h ∧ txt T ∧ zI h 1204 616 = nI T.length ∧ ∀ (k : Nat) (c : Int32), T[k]? = some c → zE h 617 k = c) ∧ zI h 1205 616 = fa ∧ zI h 1206 616 = nI TX.length ∧ (zI h 1213 616 = nI St ∧ ∀ x ∈ TX, x.2.2.1 + x.2.2.2.length ≤ St) ∧ (∀ p, p < 8 → zE h 623 p = nI (vs p).length) ∧ ∀ K, okR h K
theorem RX.on {vs : Nat → List Prg} {TX : List (Nat × Nat × Nat × Prg)} {h h1 : Hp} {T : List Int32} {fa : Int32} {St : Nat} {S : Nat → Nat → Prop} (q : RX vs TX h T fa St) (f : frx S h h1) (s1 : ∀ j, (j = 1204 ∨ j = 1205 ∨ j = 1206 ∨ j = 1213) → ¬ S 616 j) (s2 : ∀ r j, (r = 617 ∨ r = 623 ∨ (625 ≤ r ∧ r ≤ 629)) → ¬ S r j) : RX vs TX h1 T fa St := by
  obtain ⟨⟨H, t, q1, q2⟩, q3, q4, ⟨q5, q6⟩, q7, q8⟩ := q
  exact ⟨⟨H.on f, t, (f.2.2.1 _ (s1 _ (by omega))).trans q1, fun k c hk => (f.2.2.2 _ _ (s2 _ _ (by omega))).trans (q2 k c hk)⟩, (f.2.2.1 _ (s1 _ (by omega))).trans q3, (f.2.2.1 _ (s1 _ (by omega))).trans q4, ⟨(f.2.2.1 _ (s1 _ (by omega))).trans q5, q6⟩, fun p hp => (f.2.2.2 _ _ (s2 _ _ (by omega))).trans (q7 p hp), fun K => (q8 K).same (fun r h1 h2 => f.2.2.2 r K (s2 _ _ (by omega)))⟩
theorem RX.tp {vs : Nat → List Prg} {TX : List (Nat × Nat × Nat × Prg)} {h h1 : Hp} {T : List Int32} {fa : Int32} {St : Nat} (q : RX vs TX h T fa St) (f : frx tpS h h1) : RX vs TX h1 T fa St := q.on f (fun j hj z => by
    rcases z with z | z | z
    · rcases z with ⟨s, -, z⟩ | z
      · unfold shS at z; omega
      · unfold shX at z; omega
    · omega
    · omega) (fun r j hr z => by
    rcases z with z | z | z
    · rcases z with ⟨s, -, z⟩ | z
      · unfold shS at z; omega
      · unfold shX at z; omega
    · omega
    · omega)
theorem RT.new {vs vs1 : Nat → List Prg} {c : Nat} {TX TX1 : List (Nat × Nat × Nat × Prg)} {K tk : Nat} {h h1 : Hp} {W : Wld} {S : Nat → Nat → Prop} (R : RT vs c TX K tk h W) (f : frx S h h1) (hS : ∀ a j, S a j → (a = 616 ∧ j ≠ 1224 ∧ j ≠ 1201 ∧ j ≠ 1202) ∨ (617 ≤ a ∧ a ≤ 632)) (le : vsLe vs vs1) (T1 : txOK h1 vs1 TX1) (l1 : ltAt h1 vs1 TX1) (b : ∀ p, p < 8 → (vs1 p).length ≤ 4100) : RT vs1 c TX1 K tk h1 W := by
  obtain ⟨R, -, t, e⟩ := R
  refine ⟨fun s hs => ?_, l1, t, (f.2.2.1 1202 (fun z => by have := hS _ _ z; omega)).trans e⟩
  obtain ⟨C, ⟨⟨g1, g2, g3, g4, g5, g6⟩, ⟨hI, hY⟩, I, EE, rs⟩, R2, R3⟩ := R s hs
  refine ⟨C, ⟨⟨g1.on f, ?_, ?_, T1, g5, b⟩, ⟨ShI_le le hI, hY⟩, I, EE, rs.on f (fun a i _ => ?_) (fun a j z1 z => ?_)⟩, R2, R3⟩
  · rw [f.2.2.1 1224 (fun z => by have := hS _ _ z; omega)]; exact g2
  · rw [f.2.2.1 1201 (fun z => by have := hS _ _ z; omega)]; exact g3
  · by_cases cc : a < 633 ∨ 637 < a
    · exact Or.inr cc
    · refine Or.inl (fun z => ?_)
      have := hS _ _ z; omega
  · have := hS _ _ z
    unfold shS at z1
    rcases z1 with z1 | z1 | z1 | z1 | z1 | z1 | z1 <;> omega
theorem vsLe.rf (vs : Nat → List Prg) : vsLe vs vs := fun p => List.prefix_refl _
theorem stAt.onS {h h1 : Hp} {S : Nat → Nat → Prop} {K : Nat} {q : StpQ} (s : stAt h K q) (f : frx S h h1) (hS : ∀ r, 624 ≤ r → r ≤ 630 → ¬ S r K) : stAt h1 K q := s.onR f hS
theorem txOK.onP {h h1 : Hp} {vs : Nat → List Prg} {TX : List (Nat × Nat × Nat × Prg)} {S : Nat → Nat → Prop} {St : Nat} (T : txOK h vs TX) (f : frx S h h1) (s1 : ∀ a j, 618 ≤ a → a ≤ 621 → ¬ S a j) (s2 : ∀ a j, 624 ≤ a → a ≤ 630 → j < St → ¬ S a j) (hb : ∀ x ∈ TX, x.2.2.1 + x.2.2.2.length ≤ St) : txOK h1 vs TX := by
  obtain ⟨t1, t2, t3⟩ := T
  refine ⟨t1, fun t x hx => ?_, t3⟩
  obtain ⟨⟨a1, a2, a3, a4⟩, b, c, d, e⟩ := t2 t x hx
  have := hb x (List.mem_of_getElem? hx)
  exact ⟨⟨(f.2.2.2 _ _ (s1 _ _ (by omega) (by omega))).trans a1, (f.2.2.2 _ _ (s1 _ _ (by omega) (by omega))).trans a2, (f.2.2.2 _ _ (s1 _ _ (by omega) (by omega))).trans a3, (f.2.2.2 _ _ (s1 _ _ (by omega) (by omega))).trans a4⟩, b, c, fun j hj => (d j hj).onR f (fun r h1 h2 => s2 r _ h1 h2 (by omega)), e⟩
section Ty
variable {vs : Nat → List Prg} {c : Nat} {TX : List (Nat × Nat × Nat × Prg)} {K tk : Nat} {h : Hp} {W : Wld} {T : List Int32} {fa : Int32} {St : Nat}
def tyR (a j : Nat) : Prop := (a = 616 ∧ j = 1204) ∨ a = 617
theorem w_ty80 {w : Int64} : ∀ (n fuel : Nat) (h : Hp) (T : List Int32), RX vs TX h T fa St → T.length + n ≤ 300 → n ≤ 8 → (∀ j, j < n → okC w j) → n < fuel → ∃ h1, f_X11_type_80 fuel 616 w (nI n - 1) h = some (1, h1) ∧ RX vs TX h1 (T ++ chs w n) fa St ∧ frx tyR h h1
  | n, 0, _, _, _, _, _, _, hf => absurd hf (Nat.not_lt_zero _)
  | 0, fuel + 1, h, T, q, _, _, _, _ => by
    refine ⟨h, ?_, ?_, frx.rf h⟩
    · unfold f_X11_type_80
      rw [if_pos (by decide)]
    · unfold chs
      rw [List.append_nil]
      exact q
  | n + 1, fuel + 1, h, T, q, hl, h8, hk, hf => by
    obtain ⟨x, x1, x2, x3⟩ := hk n (by omega)
    have f1 : frx tyR h (pI (pE h 617 T.length (nI x)) 1204 616 (nI (T.length + 1))) := (frx_pE (S := tyR) (Or.inr rfl)).trans (frx_pI (Or.inl ⟨rfl, rfl⟩))
    obtain ⟨⟨H, t, q1, q2⟩, q3, q4, ⟨q5, q6⟩, q7, q8⟩ := q
    have qn : RX vs TX (pI (pE h 617 T.length (nI x)) 1204 616 (nI (T.length + 1))) (T ++ [nI x]) fa St := by
      refine ⟨⟨H.on f1, ⟨?_, fun y hy => ?_⟩, ?_, fun k y hk => ?_⟩, (f1.2.2.1 _ (by unfold tyR; omega)).trans q3, (f1.2.2.1 _ (by unfold tyR; omega)).trans q4, ⟨(f1.2.2.1 _ (by unfold tyR; omega)).trans q5, q6⟩, fun p hp => (f1.2.2.2 _ _ (by unfold tyR; omega)).trans (q7 p hp), fun K => (q8 K).same (fun r h1 h2 => f1.2.2.2 r K (by unfold tyR; omega))⟩
      · rw [List.length_append, List.length_singleton]; omega
      · rcases List.mem_append.mp hy with z | z
        · exact t.2 y z
        · exact ⟨x, x1, x2, List.mem_singleton.mp z⟩
      · rw [zI_pI, if_pos ⟨rfl, rfl⟩, List.length_append, List.length_singleton]
      · rw [zE_pI, zE_pE]
        by_cases e : k < T.length
        · rw [if_neg (by omega)]
          rw [List.getElem?_append_left e] at hk
          exact q2 k y hk
        · have e2 : k = T.length := by
            have := (List.getElem?_eq_some_iff.mp hk).1
            rw [List.length_append, List.length_singleton] at this
            omega
          rw [e2, List.getElem?_append_right (Nat.le_refl _), Nat.sub_self] at hk
          have hk : some (nI x) = some y := hk
          cases hk
          rw [if_pos ⟨rfl, e2⟩]
    obtain ⟨h1, e1, e2, e3⟩ := w_ty80 (w := w) n fuel _ _ qn (by rw [List.length_append, List.length_singleton]; omega) (by omega) (fun j hj => hk j (by omega)) (by omega)
    refine ⟨h1, ?_, ?_, f1.trans e3⟩
    · have s1 : nI (n + 1) - (1 : Int32) = nI n := zi_sub (a := n + 1) (b := 1) (by omega)
      have s2 : nI n + (-1 : Int32) = nI n - 1 := (Int32.sub_eq_add_neg (nI n) 1).symm
      have x3 : ((w >>> (((8 : Int32) * nI n).toInt64 &&& 63)) &&& (255 : Int64)).toInt32 = nI x := x3
      rw [s1]
      unfold f_X11_type_80
      rw [if_neg (zi_neg (by omega)), ck_yes (RF_o H), RF_1203 H, ck_yes (RO_617 H), q1, RL_617 H, ck_yes (zi_in (by omega : T.length < 300) (by omega)), zi_nat (by omega), x3]
      unfold bh
      dsimp only
      rw [show zI (pE h 617 T.length (nI x)) 1204 616 = nI T.length from q1, zi_one, s2]
      exact e1
    · have : chs w (n + 1) = [nI x] ++ chs w n := by
        show chr w n :: chs w n = _
        rw [x3]; rfl
      rw [this, ← List.append_assoc]
      exact e2
theorem w_ty33 {w : Int64} {n : Nat} (q : RX vs TX h T fa St) (hl : T.length + n ≤ 300) (h8 : n ≤ 8) : ∀ (k i fuel : Nat), i + k = n → k < fuel → (∀ j, j < i → okC w j) → (okA w k i = true → ∃ h1, f_X11_type_33 fuel 616 w (nI n) (nI i) h = some (1, h1) ∧ RX vs TX h1 (T ++ chs w n) fa St ∧ frx tyR h h1) ∧ (okA w k i = false → f_X11_type_33 fuel 616 w (nI n) (nI i) h = some (0, h))
  | k, i, 0, _, hf, _ => absurd hf (Nat.not_lt_zero _)
  | 0, i, fuel + 1, hi, _, ok => by
    have hi : i = n := hi
    subst hi
    refine ⟨fun _ => ?_, fun z => by cases z⟩
    unfold f_X11_type_33
    rw [if_pos ((zi_le (by omega) (by omega)).mpr (Nat.le_refl _))]
    exact w_ty80 i fz h T q hl h8 ok (fz_big (by omega))
  | k + 1, i, fuel + 1, hi, hf, ok => by
    have nle : ¬ nI n ≤ nI i := zi_le0 (by omega) (by omega) (by omega)
    have go : f_X11_type_33 (fuel + 1) 616 w (nI n) (nI i) h = if chr w i < 33 then some (0, h) else if chr w i ≤ 126 then f_X11_type_33 fuel 616 w (nI n) (nI (i + 1)) h else some (0, h) := by
      conv => lhs; unfold f_X11_type_33
      rw [if_neg nle]
      unfold bh
      dsimp only
      rw [zi_one]
      rfl
    rw [go]
    unfold okA
    by_cases c1 : chr w i < 33
    · rw [if_pos c1, if_pos c1]
      exact ⟨(fun z => by cases z), fun _ => rfl⟩
    · rw [if_neg c1, if_neg c1]
      by_cases c2 : chr w i ≤ 126
      · rw [if_pos c2, if_pos c2]
        refine w_ty33 q hl h8 k (i + 1) fuel (by omega) (by omega) (fun j hj => ?_)
        by_cases e : j = i
        · have o1 : okA w 1 i = true := by
            unfold okA
            rw [if_neg c1, if_pos c2]
            rfl
          exact okA_all 1 i (by omega) o1 j (by omega) (by omega)
        · exact ok j (by omega)
      · rw [if_neg c2, if_neg c2]
        exact ⟨(fun z => by cases z), fun _ => rfl⟩
theorem w_type (q : RX vs TX h T fa St) (R : RT vs c TX K tk h W) (w : Int64) (n : Int32) : ∃ h1, f_X11_type 616 w n h = some (if (typ T w n).1 = true then 1 else 0, h1) ∧ RX vs TX h1 (typ T w n).2 fa St ∧ RT vs c TX K tk h1 W ∧ frx (fun a j => tyR a j ∨ (a = 616 ∧ j = 1200)) h h1 := by
  have H := q.1.1
  have f0 : frx (fun a j => a = 616 ∧ j = 1200) h (pI h 1200 616 0) := frx_pI ⟨rfl, rfl⟩
  have q0 : RX vs TX (pI h 1200 616 0) T fa St := q.on f0 (fun j hj => by omega) (fun r j hr => by omega)
  have done : ∀ {h1 : Hp} {T1 : List Int32}, RX vs TX h1 T1 fa St → frx tyR (pI h 1200 616 0) h1 → RX vs TX h1 T1 fa St ∧ RT vs c TX K tk h1 W ∧ frx (fun a j => tyR a j ∨ (a = 616 ∧ j = 1200)) h h1 := fun {h1 T1} qq ff => by
    have f1 : frx (fun a j => tyR a j ∨ (a = 616 ∧ j = 1200)) h h1 := (f0.mono (fun a j z => Or.inr z)).trans (ff.mono (fun a j z => Or.inl z))
    refine ⟨qq, R.new f1 (fun a j z => by unfold tyR at z; omega) (vsLe.rf vs) ?_ ?_ ?_, f1⟩
    · exact ((R.1 0 (by omega)).choose_spec.1.1.2.2.2.1).on f1 (fun a j _ _ z => by unfold tyR at z; omega)
    · intro p hp
      rw [f1.2.2.2 622 p (fun z => by unfold tyR at z; omega)]
      exact R.2.1 p hp
    · exact (R.1 0 (by omega)).choose_spec.1.1.2.2.2.2.2
  have e3 : zI (pI h 1200 616 0) 1204 616 = nI T.length := q0.1.2.2.1
  unfold typ f_X11_type
  rw [ck_yes (RF_o H)]
  unfold bh
  dsimp only
  by_cases c1 : n < 1
  · rw [if_pos c1, if_pos c1]
    exact ⟨_, rfl, done q0 (frx.rf _)⟩
  rw [if_neg c1, if_neg c1]
  by_cases c2 : 8 < n
  · rw [if_pos c2, if_pos c2]
    exact ⟨_, rfl, done q0 (frx.rf _)⟩
  rw [if_neg c2, if_neg c2, e3]
  by_cases c3 : nI T.length + n ≤ 300
  · rw [if_pos c3, if_pos c3]
    obtain ⟨m, m1, m2, m3⟩ := int18 c1 c2
    have tl := q.1.2.1.1
    rw [m3, zi_add] at c3
    have c3 : nI (T.length + m) ≤ nI 300 := c3
    rw [zi_le (by omega) (by omega)] at c3
    obtain ⟨x1, x2⟩ := w_ty33 (w := w) q0 c3 m2 m 0 fz (by omega) (fz_big (by omega)) (fun j hj => by omega)
    rw [m3, zi_nat (by omega)]
    cases c4 : okA w m 0 with
    | true =>
      obtain ⟨h1, y1, y2, y3⟩ := x1 c4
      rw [if_pos rfl]
      exact ⟨h1, y1, done y2 y3⟩
    | false =>
      rw [if_neg (show ¬ false = true from fun z => by cases z)]
      exact ⟨_, x2 c4, done q0 (frx.rf _)⟩
  · rw [if_neg c3, if_neg c3]
    exact ⟨_, rfl, done q0 (frx.rf _)⟩
end Ty
section Pg
variable {vs : Nat → List Prg} {c : Nat} {TX : List (Nat × Nat × Nat × Prg)} {K tk : Nat} {h : Hp} {W : Wld} {T : List Int32} {fa : Int32} {St : Nat}
theorem w_rd7 {l1 : Int32} : ∀ (m i fuel : Nat) (h : Hp), i + m = 10 → RF h → m < fuel → (∀ d, d < i → zE h 632 d = -1) → ∃ h1, f_X11_read_7 fuel 616 l1 (nI i) h = f_X11_read_26 fz 616 l1 h1 ∧ frx (fun a _ => a = 632) h h1 ∧ ∀ d, d < 10 → zE h1 632 d = -1
  | m, i, 0, _, _, _, hf, _ => absurd hf (Nat.not_lt_zero _)
  | 0, i, fuel + 1, h, hi, H, _, hd => by
    have hi : i = 10 := hi
    subst hi
    refine ⟨h, ?_, frx.rf h, hd⟩
    unfold f_X11_read_7
    rw [if_pos (by decide)]
  | m + 1, i, fuel + 1, h, hi, H, hf, hd => by
    have f1 : frx (fun a _ => a = 632) h (pE h 632 i (-1)) := frx_pE rfl
    obtain ⟨h1, x1, x2, x3⟩ := w_rd7 (l1 := l1) m (i + 1) fuel (pE h 632 i (-1)) (by omega) (H.on f1) (by omega) (fun d hdd => by
      rw [zE_pE]
      by_cases e : d = i
      · rw [if_pos ⟨rfl, e⟩]
      · rw [if_neg (fun z => e z.2)]; exact hd d (by omega))
    refine ⟨h1, ?_, f1.trans x2, x3⟩
    have c : ¬ (10 : Int32) ≤ nI i := zi_le0 (a := 10) (by omega) (by omega) (by omega)
    unfold f_X11_read_7
    rw [if_neg c, ck_yes (RF_o H), RF_1222 H, ck_yes (RO_632 H), RL_632 H, ck_yes (zi_in (by omega : i < 10) (by omega)), zi_nat (by omega)]
    unfold bh
    dsimp only
    rw [zi_one]
    exact x1
theorem stpAt_map {f : StpQ × Nat → StpQ} {Q : List (StpQ × Nat)} {j : Nat} {s : StpQ × Nat} (hs : Q[j]? = some s) : stpAt (Q.map f) j = f s := by
  unfold stpAt
  rw [List.getD_eq_getElem?_getD, List.getElem?_map, hs]
  rfl
theorem w_read (q : RX vs TX h T fa St) (hSt : St + 62 < 11100) : ∃ h1, f_X11_read 616 (nI St) h = some ((prs T).1, h1) ∧ frx (pgF St) h h1 ∧ (∀ K, okR h1 K) ∧ ((prs T).1 = -1 → zI h1 1213 616 = nI (St + (prs T).2.length) ∧ ∀ j, j < (prs T).2.length → stAt h1 (St + j) (stpAt (prs T).2 j)) := by
  obtain ⟨⟨H, t, q1, q2⟩, q3, q4, ⟨q5, q6⟩, q7, q8⟩ := q
  have f0 : frx (fun a j => a = 616 ∧ j = 1223) h (pI h 1223 616 0) := frx_pI ⟨rfl, rfl⟩
  obtain ⟨m, m1, m2, m3⟩ := w_rd7 (l1 := nI St) 10 0 fz (pI h 1223 616 0) (by omega) (H.on f0) (fz_big (by omega)) (fun d hd => by omega)
  have fm : frx (fun a j => (a = 616 ∧ j = 1223) ∨ a = 632) h m := (f0.mono (fun a j z => Or.inl z)).trans (m2.mono (fun a j z => Or.inr z))
  have fm2 : frx (pgF St) h m := fm.mono (fun a j z => by unfold pgF; omega)
  have qA : rA m T 0 (St + ([] : List (StpQ × Nat)).length) := by
    refine ⟨H.on fm, ⟨(fm.2.2.1 _ (by omega)).trans q1, ?_, Nat.zero_le _⟩, ⟨(fm.2.2.1 _ (by omega)).trans q5, by show St + 0 < _; omega⟩, t, fun k c hk => (fm.2.2.2 _ _ (by omega)).trans (q2 k c hk)⟩
    rw [m2.2.2.1 1223 (by omega), zI_pI, if_pos ⟨rfl, rfl⟩]
    rfl
  have okm : ∀ K, okR m K := fun K => (q8 K).same (fun r h1 h2 => fm.2.2.2 r K (by omega))
  have start : f_X11_read 616 (nI St) h = f_X11_read_26 fz 616 (nI St) m := by
    unfold f_X11_read
    rw [ck_yes (RF_o H)]
    exact m1
  obtain ⟨h1, l1, l2, l3, l4⟩ := w_rd26 (T := T) (K0 := St) hSt 61 fz [] (fun _ => -1) 0 m qA m3 okm rfl (by omega) (fz_big (by omega)) (fun i s hi => by simp at hi)
  have pd := pLp_d (T := T) 61 [] (fun _ => -1) 0 (fun s hs => by cases hs)
  have po := pLp_ok t 61 [] (fun _ => -1) 0 (by decide) (fun s hs => by cases hs) lbO_0
  have tl := t.1
  rw [start]
  unfold prs
  generalize pLp T 61 [] (fun _ => -1) 0 = r at *
  obtain ⟨b, pl, Q, L⟩ := r
  cases b with
  | false =>
    obtain ⟨l3, l5⟩ := l3 rfl
    have l5 : pl ≤ T.length := l5
    rw [if_pos rfl]
    refine ⟨h1, l3, fm2.trans l1, l2, fun z => ?_⟩
    have z : nI pl = -1 := z
    exact absurd z (zi_ne1 (by omega))
  | true =>
    rw [if_neg (show ¬ true = false from fun z => by cases z)]
    obtain ⟨l4, l5, l6, l7⟩ := l4 rfl
    have l5 : rA h1 T pl (St + Q.length) := l5
    have l6 : lbR h1 L := l6
    have pd := pd rfl
    obtain ⟨po1, -, po3⟩ := po rfl
    obtain ⟨g, g1, g2, g3⟩ := w_lnk (L := L) Q St fz h1 l5.1 l5.2.2.1.1 l5.2.2.1.2 l6 (fun j s hj => ⟨l7 j s hj, fun z => by
      have := (po1 s (List.mem_of_getElem? hj)).2.2.1
      rcases this with y | y | y
      · rw [y.2.2] at z; cases z
      · exact y.2
      · rw [y.2] at z; cases z⟩) (by have po3 : Q.length ≤ 60 := po3; exact fz_big (by omega))
    have fg : frx (pgF St) h g := (fm2.trans l1).trans (g1.mono (fun a j z => by unfold pgF; omega))
    have okg : ∀ K, okR g K := fun K => (l2 K).same (fun r h1 h2 => g1.2.2.2 r K (by omega))
    rw [l4]
    dsimp only
    cases ck : pLk L Q with
    | some d =>
      refine ⟨g, g2 d ck, fg, okg, fun z => ?_⟩
      have z : nI d = -1 := z
      have : d ≤ T.length := by
        unfold pLk at ck
        rw [Option.map_eq_some_iff] at ck
        obtain ⟨s, s1, s2⟩ := ck
        rw [← s2]
        exact pd s (List.mem_of_find?_eq_some s1)
      exact absurd z (zi_ne1 (by omega))
    | none =>
      obtain ⟨g4, g5⟩ := g3 ck
      refine ⟨g, g4, fg, okg, fun _ => ⟨?_, fun j hj => ?_⟩⟩
      · rw [g1.2.2.1 1213 (by omega), l5.2.2.1.1]
        show nI (St + Q.length) = nI (St + (List.map _ Q).length)
        rw [List.length_map]
      · have hj : j < (List.map (fun q : StpQ × Nat => lnk L q.1) Q).length := hj
        rw [List.length_map] at hj
        have := g5 j _ (List.getElem?_eq_getElem hj)
        show stAt g (St + j) (stpAt (List.map (fun q : StpQ × Nat => lnk L q.1) Q) j)
        rw [stpAt_map (List.getElem?_eq_getElem hj)]
        exact this
end Pg
/-! a program comes to the reference -/
theorem bhE {α β : Type} (x : α) (f : α → β) : bh x f = f x := rfl
def pgA (a j : Nat) : Prop := (a = 616 ∧ j ≠ 1224 ∧ j ≠ 1201 ∧ j ≠ 1202) ∨ (617 ≤ a ∧ a ≤ 632)
theorem txt0 : txt [] := ⟨by show 0 ≤ 300; omega, fun x hx => by cases hx⟩
section Ph
variable {vs : Nat → List Prg} {c : Nat} {TX : List (Nat × Nat × Nat × Prg)} {K tk : Nat} {h : Hp} {W : Wld} {T : List Int32} {fa : Int32} {St : Nat}
theorem RT.tx (R : RT vs c TX K tk h W) : txOK h vs TX ∧ ∀ p, p < 8 → (vs p).length ≤ 4100 := by
  obtain ⟨C, ⟨⟨-, -, -, g4, -, g6⟩, -⟩, -⟩ := R.1 0 (by omega)
  exact ⟨g4, g6⟩
/-- nothing comes of it -/
theorem w_pgN (q : RX vs TX h T fa St) (R : RT vs c TX K tk h W) {g : Hp} (f : frx (pgF St) h g) (ok : ∀ K, okR g K) (f1 th : Int32) : RX vs TX (pI (pI (pI (pI g 1205 616 f1) 1204 616 0) 1213 616 (nI St)) 1200 616 th) [] f1 St ∧ RT vs c TX K tk (pI (pI (pI (pI g 1205 616 f1) 1204 616 0) 1213 616 (nI St)) 1200 616 th) W ∧ frx pgA h (pI (pI (pI (pI g 1205 616 f1) 1204 616 0) 1213 616 (nI St)) 1200 616 th) ∧ zI (pI (pI (pI (pI g 1205 616 f1) 1204 616 0) 1213 616 (nI St)) 1200 616 th) 1200 616 = th := by
  obtain ⟨⟨H, t, q1, q2⟩, q3, q4, ⟨q5, q6⟩, q7, q8⟩ := q
  have fa : frx pgA h g := f.mono (fun a j z => by unfold pgF at z; unfold pgA; omega)
  have fb : frx pgA g (pI (pI (pI (pI g 1205 616 f1) 1204 616 0) 1213 616 (nI St)) 1200 616 th) := (((frx_pI (S := pgA) (Or.inl ⟨rfl, by omega, by omega, by omega⟩)).trans (frx_pI (Or.inl ⟨rfl, by omega, by omega, by omega⟩))).trans (frx_pI (Or.inl ⟨rfl, by omega, by omega, by omega⟩))).trans (frx_pI (Or.inl ⟨rfl, by omega, by omega, by omega⟩))
  have fc : frx (fun a j => pgF St a j ∨ a = 616) h (pI (pI (pI (pI g 1205 616 f1) 1204 616 0) 1213 616 (nI St)) 1200 616 th) := (f.mono (fun a j z => Or.inl z)).trans ((((frx_pI (S := fun a j => pgF St a j ∨ a = 616) (Or.inr rfl)).trans (frx_pI (Or.inr rfl))).trans (frx_pI (Or.inr rfl))).trans (frx_pI (Or.inr rfl)))
  refine ⟨⟨⟨H.on fc, txt0, ?_, fun k x hk => by simp at hk⟩, ?_, ?_, ⟨?_, q6⟩, fun p hp => (fc.2.2.2 _ _ (by unfold pgF; omega)).trans (q7 p hp), ok⟩, R.new (fa.trans fb) (fun a j z => z) (vsLe.rf vs) (R.tx.1.onP (St := St) fc (fun a j _ _ => by unfold pgF; omega) (fun a j _ _ _ => by unfold pgF; omega) q6) (fun p hp => ?_) R.tx.2, fa.trans fb, ?_⟩
  · rw [zI_pI, if_neg (by omega), zI_pI, if_neg (by omega), zI_pI, if_pos ⟨rfl, rfl⟩]; rfl
  · rw [zI_pI, if_neg (by omega), zI_pI, if_neg (by omega), zI_pI, if_neg (by omega), zI_pI, if_pos ⟨rfl, rfl⟩]
  · rw [zI_pI, if_neg (by omega), zI_pI, if_neg (by omega), zI_pI, if_neg (by omega), zI_pI, if_neg (by omega), f.2.2.1 1206 (by unfold pgF; omega)]; exact q4
  · rw [zI_pI, if_neg (by omega), zI_pI, if_pos ⟨rfl, rfl⟩]
  · rw [fc.2.2.2 622 p (by unfold pgF; omega)]; exact R.2.1 p hp
  · rw [zI_pI, if_pos ⟨rfl, rfl⟩]
theorem w_pg26n {l3 s1 p : Int32} {g : Hp} (H : RF g) (hc : l3 = 0 ∨ (l3 = 1 ∧ s1 ≠ -1)) : f_X11_program_26 616 s1 616 p (nI St) l3 g = some (0, pI (pI (pI (pI g 1205 616 s1) 1204 616 0) 1213 616 (nI St)) 1200 616 (if l3 = 0 then 2 else 1)) := by
  unfold f_X11_program_26
  rw [ck_yes (RF_o H)]
  unfold bh
  dsimp only
  rw [ck_yes (show isO (pI g 1205 616 s1) 616 12 from RF_o H)]
  rcases hc with rfl | ⟨rfl, hc⟩
  · rw [if_pos rfl, if_pos rfl, if_pos rfl]
    unfold f_X11_raise
    rw [ck_yes (show isO (pI (pI (pI g 1205 616 s1) 1204 616 0) 1213 616 (nI St)) 616 12 from RF_o H)]
    rfl
  · have e : ¬ zI (pI (pI g 1205 616 s1) 1204 616 0) 1205 616 = -1 := by
      rw [zI_pI, if_neg (by omega), zI_pI, if_pos ⟨rfl, rfl⟩]
      exact hc
    rw [if_neg (show ¬ (1 : Int32) = 0 by decide), if_neg e, if_neg (show ¬ (1 : Int32) = 0 by decide), if_neg (show ¬ (1 : Int32) = 0 by decide)]
    unfold f_X11_raise
    rw [ck_yes (show isO (pI (pI (pI g 1205 616 s1) 1204 616 0) 1213 616 (nI St)) 616 12 from RF_o H)]
    rfl
theorem w_programB (q : RX vs TX h T fa St) (R : RT vs c TX K tk h W) {p : Int32} (hp : p < 0 ∨ 8 ≤ p) : ∃ h1, f_X11_program 616 p h = some (0, h1) ∧ RX vs TX h1 [] (-1) St ∧ RT vs c TX K tk h1 W ∧ frx pgA h h1 ∧ zI h1 1200 616 = 2 := by
  have H := q.1.1
  obtain ⟨x1, x2, x3, x4⟩ := w_pgN q R (frx.rf h) q.2.2.2.2.2 (-1) 2
  refine ⟨_, ?_, x1, x2, x3, x4⟩
  unfold f_X11_program
  rw [ck_yes (RF_o H), q.2.2.2.1.1]
  unfold bh
  dsimp only
  rw [w_no hp, bind_some9]
  dsimp only
  rw [if_pos rfl, w_pg26n H (Or.inl rfl), if_pos rfl]
theorem w_programF (q : RX vs TX h T fa St) (R : RT vs c TX K tk h W) (hSt : St + 62 < 11100) {p : Int32} (hp : ¬ (p < 0 ∨ 8 ≤ p)) (hf : (prs T).1 ≠ -1) : ∃ h1, f_X11_program 616 p h = some (0, h1) ∧ RX vs TX h1 [] (prs T).1 St ∧ RT vs c TX K tk h1 W ∧ frx pgA h h1 ∧ zI h1 1200 616 = 1 := by
  have H := q.1.1
  obtain ⟨g, g1, g2, g3, -⟩ := w_read q hSt
  obtain ⟨x1, x2, x3, x4⟩ := w_pgN q R g2 g3 (prs T).1 1
  refine ⟨_, ?_, x1, x2, x3, x4⟩
  unfold f_X11_program
  rw [ck_yes (RF_o H), q.2.2.2.1.1]
  unfold bh
  dsimp only
  rw [w_yes hp, bind_some9]
  dsimp only
  rw [if_neg (show ¬ (1 : Int32) = 0 by decide), ck_yes (RF_o H), g1, bind_some9]
  dsimp only
  rw [w_pg26n (H.on g2) (Or.inr ⟨rfl, hf⟩), if_neg (show ¬ (1 : Int32) = 0 by decide)]
end Ph
def pgT17 (p s : Int32) (h : Hp) : Option (Int32 × Hp) := ck (isO h (zR h 1207 616) 22) (ck (inR (zI h 1206 616) (zL h (zR h 1207 616))) (bh (pE h (zR h 1207 616) (zI h 1206 616).toNatClampNeg p) (fun h20 => ck (isO (h20) (zR (h20) 1212 616) 22) (ck (inR p (zL (h20) (zR (h20) 1212 616))) (ck (isO (h20) (zR (h20) 1208 616) 22) (ck (inR (zI (h20) 1206 616) (zL (h20) (zR (h20) 1208 616))) (bh (pE (h20) (zR (h20) 1208 616) (zI (h20) 1206 616).toNatClampNeg (zE (h20) (zR (h20) 1212 616) p.toNatClampNeg)) (fun h25 => ck (isO (h25) (zR (h25) 1209 616) 22) (ck (inR (zI (h25) 1206 616) (zL (h25) (zR (h25) 1209 616))) (bh (pE (h25) (zR (h25) 1209 616) (zI (h25) 1206 616).toNatClampNeg s) (fun h28 => ck (isO (h28) (zR (h28) 1210 616) 22) (ck (inR (zI (h28) 1206 616) (zL (h28) (zR (h28) 1210 616))) (bh (pE (h28) (zR (h28) 1210 616) (zI (h28) 1206 616).toNatClampNeg ((zI (h28) 1213 616) - s)) (fun h31 => ck (isO (h31) (zR (h31) 1211 616) 22) (ck (inR p (zL (h31) (zR (h31) 1211 616))) (bh (pE (h31) (zR (h31) 1211 616) p.toNatClampNeg (zI (h31) 1206 616)) (fun h34 => ck (isO (h34) (zR (h34) 1212 616) 22) (ck (inR p (zL (h34) (zR (h34) 1212 616))) (bh (pE (h34) (zR (h34) 1212 616) p.toNatClampNeg ((zE (h34) (zR (h34) 1212 616) p.toNatClampNeg) + ((1 : Int32)))) (fun h37 => bh (pI (h37) 1206 616 ((zI (h37) 1206 616) + ((1 : Int32)))) (fun h38 => some ((zI (h38) 1213 616) - s, h38))))))))))))))))))))))
def pgT20 (p s : Int32) (h : Hp) : Option (Int32 × Hp) := ck (isO h (zR h 1212 616) 22) (ck (inR p (zL h (zR h 1212 616))) (ck (isO h (zR h 1208 616) 22) (ck (inR (zI h 1206 616) (zL h (zR h 1208 616))) (bh (pE h (zR h 1208 616) (zI h 1206 616).toNatClampNeg (zE h (zR h 1212 616) p.toNatClampNeg)) (fun h25 => ck (isO (h25) (zR (h25) 1209 616) 22) (ck (inR (zI (h25) 1206 616) (zL (h25) (zR (h25) 1209 616))) (bh (pE (h25) (zR (h25) 1209 616) (zI (h25) 1206 616).toNatClampNeg s) (fun h28 => ck (isO (h28) (zR (h28) 1210 616) 22) (ck (inR (zI (h28) 1206 616) (zL (h28) (zR (h28) 1210 616))) (bh (pE (h28) (zR (h28) 1210 616) (zI (h28) 1206 616).toNatClampNeg ((zI (h28) 1213 616) - s)) (fun h31 => ck (isO (h31) (zR (h31) 1211 616) 22) (ck (inR p (zL (h31) (zR (h31) 1211 616))) (bh (pE (h31) (zR (h31) 1211 616) p.toNatClampNeg (zI (h31) 1206 616)) (fun h34 => ck (isO (h34) (zR (h34) 1212 616) 22) (ck (inR p (zL (h34) (zR (h34) 1212 616))) (bh (pE (h34) (zR (h34) 1212 616) p.toNatClampNeg ((zE (h34) (zR (h34) 1212 616) p.toNatClampNeg) + ((1 : Int32)))) (fun h37 => bh (pI (h37) 1206 616 ((zI (h37) 1206 616) + ((1 : Int32)))) (fun h38 => some ((zI (h38) 1213 616) - s, h38)))))))))))))))))))
def pgT25 (p s : Int32) (h : Hp) : Option (Int32 × Hp) := ck (isO h (zR h 1209 616) 22) (ck (inR (zI h 1206 616) (zL h (zR h 1209 616))) (bh (pE h (zR h 1209 616) (zI h 1206 616).toNatClampNeg s) (fun h28 => ck (isO (h28) (zR (h28) 1210 616) 22) (ck (inR (zI (h28) 1206 616) (zL (h28) (zR (h28) 1210 616))) (bh (pE (h28) (zR (h28) 1210 616) (zI (h28) 1206 616).toNatClampNeg ((zI (h28) 1213 616) - s)) (fun h31 => ck (isO (h31) (zR (h31) 1211 616) 22) (ck (inR p (zL (h31) (zR (h31) 1211 616))) (bh (pE (h31) (zR (h31) 1211 616) p.toNatClampNeg (zI (h31) 1206 616)) (fun h34 => ck (isO (h34) (zR (h34) 1212 616) 22) (ck (inR p (zL (h34) (zR (h34) 1212 616))) (bh (pE (h34) (zR (h34) 1212 616) p.toNatClampNeg ((zE (h34) (zR (h34) 1212 616) p.toNatClampNeg) + ((1 : Int32)))) (fun h37 => bh (pI (h37) 1206 616 ((zI (h37) 1206 616) + ((1 : Int32)))) (fun h38 => some ((zI (h38) 1213 616) - s, h38))))))))))))))
def pgT28 (p s : Int32) (h : Hp) : Option (Int32 × Hp) := ck (isO h (zR h 1210 616) 22) (ck (inR (zI h 1206 616) (zL h (zR h 1210 616))) (bh (pE h (zR h 1210 616) (zI h 1206 616).toNatClampNeg ((zI h 1213 616) - s)) (fun h31 => ck (isO (h31) (zR (h31) 1211 616) 22) (ck (inR p (zL (h31) (zR (h31) 1211 616))) (bh (pE (h31) (zR (h31) 1211 616) p.toNatClampNeg (zI (h31) 1206 616)) (fun h34 => ck (isO (h34) (zR (h34) 1212 616) 22) (ck (inR p (zL (h34) (zR (h34) 1212 616))) (bh (pE (h34) (zR (h34) 1212 616) p.toNatClampNeg ((zE (h34) (zR (h34) 1212 616) p.toNatClampNeg) + ((1 : Int32)))) (fun h37 => bh (pI (h37) 1206 616 ((zI (h37) 1206 616) + ((1 : Int32)))) (fun h38 => some ((zI (h38) 1213 616) - s, h38)))))))))))
def pgT31 (p s : Int32) (h : Hp) : Option (Int32 × Hp) := ck (isO h (zR h 1211 616) 22) (ck (inR p (zL h (zR h 1211 616))) (bh (pE h (zR h 1211 616) p.toNatClampNeg (zI h 1206 616)) (fun h34 => ck (isO (h34) (zR (h34) 1212 616) 22) (ck (inR p (zL (h34) (zR (h34) 1212 616))) (bh (pE (h34) (zR (h34) 1212 616) p.toNatClampNeg ((zE (h34) (zR (h34) 1212 616) p.toNatClampNeg) + ((1 : Int32)))) (fun h37 => bh (pI (h37) 1206 616 ((zI (h37) 1206 616) + ((1 : Int32)))) (fun h38 => some ((zI (h38) 1213 616) - s, h38))))))))
def pgT34 (p s : Int32) (h : Hp) : Option (Int32 × Hp) := ck (isO h (zR h 1212 616) 22) (ck (inR p (zL h (zR h 1212 616))) (bh (pE h (zR h 1212 616) p.toNatClampNeg ((zE h (zR h 1212 616) p.toNatClampNeg) + ((1 : Int32)))) (fun h37 => bh (pI (h37) 1206 616 ((zI (h37) 1206 616) + ((1 : Int32)))) (fun h38 => some ((zI (h38) 1213 616) - s, h38)))))
def pgT37 (p s : Int32) (h : Hp) : Option (Int32 × Hp) := bh (pI h 1206 616 ((zI h 1206 616) + ((1 : Int32)))) (fun h38 => some ((zI (h38) 1213 616) - s, h38))
section Pi
variable {p t v L St : Nat} {m : Hp}
theorem pgT17_e (H : RF m) (it : inR (nI t) 4100) (tt : (nI t).toNatClampNeg = t) (e6 : zI m 1206 616 = nI t) : pgT17 (nI p) (nI St) m = pgT20 (nI p) (nI St) (pE m 618 t (nI p)) := by
  unfold pgT17
  rw [RF_1207 H, ck_yes (RO_618 H), e6, RL_618 H, ck_yes it, tt]
  rfl
theorem pgT20_e (H : RF m) (it : inR (nI t) 4100) (tt : (nI t).toNatClampNeg = t) (i8 : inR (nI p) 8) (tp : (nI p).toNatClampNeg = p) (e6 : zI m 1206 616 = nI t) (e3 : zE m 623 p = nI v) : pgT20 (nI p) (nI St) m = pgT25 (nI p) (nI St) (pE m 619 t (nI v)) := by
  unfold pgT20
  rw [RF_1212 H, ck_yes (RO_623 H), RL_623 H, ck_yes i8, RF_1208 H, ck_yes (RO_619 H), e6, RL_619 H, ck_yes it, tt, show zE m 623 (nI p).toNatClampNeg = nI v from by rw [tp]; exact e3]
  rfl
theorem pgT25_e (H : RF m) (it : inR (nI t) 4100) (tt : (nI t).toNatClampNeg = t) (e6 : zI m 1206 616 = nI t) : pgT25 (nI p) (nI St) m = pgT28 (nI p) (nI St) (pE m 620 t (nI St)) := by
  unfold pgT25
  rw [RF_1209 H, ck_yes (RO_620 H), e6, RL_620 H, ck_yes it, tt]
  rfl
theorem pgT28_e (H : RF m) (it : inR (nI t) 4100) (tt : (nI t).toNatClampNeg = t) (e6 : zI m 1206 616 = nI t) (e13 : zI m 1213 616 - nI St = nI L) : pgT28 (nI p) (nI St) m = pgT31 (nI p) (nI St) (pE m 621 t (nI L)) := by
  unfold pgT28
  rw [RF_1210 H, ck_yes (RO_621 H), e6, RL_621 H, ck_yes it, tt, e13]
  rfl
theorem pgT31_e (H : RF m) (i8 : inR (nI p) 8) (tp : (nI p).toNatClampNeg = p) (e6 : zI m 1206 616 = nI t) : pgT31 (nI p) (nI St) m = pgT34 (nI p) (nI St) (pE m 622 p (nI t)) := by
  unfold pgT31
  rw [RF_1211 H, ck_yes (RO_622 H), RL_622 H, ck_yes i8, e6, show pE m 622 (nI p).toNatClampNeg (nI t) = pE m 622 p (nI t) from by rw [tp]]
  rfl
theorem pgT34_e (H : RF m) (i8 : inR (nI p) 8) (tp : (nI p).toNatClampNeg = p) (e3 : zE m 623 p = nI v) : pgT34 (nI p) (nI St) m = pgT37 (nI p) (nI St) (pE m 623 p (nI (v + 1))) := by
  unfold pgT34
  rw [RF_1212 H, ck_yes (RO_623 H), RL_623 H, ck_yes i8, tp, e3, zi_one]
  rfl
theorem pgT37_e (e6 : zI m 1206 616 = nI t) (e13 : zI m 1213 616 - nI St = nI L) : pgT37 (nI p) (nI St) m = some (nI L, pI m 1206 616 (nI (t + 1))) := by
  unfold pgT37
  rw [e6, zi_one, bhE, show zI (pI m 1206 616 (nI (t + 1))) 1213 616 = zI m 1213 616 from by rw [zI_pI, if_neg (by omega)], e13]
/-- what stands of a new text -/
def pgH (m : Hp) (p t v L St : Nat) : Hp := pI (pE (pE (pE (pE (pE (pE m 618 t (nI p)) 619 t (nI v)) 620 t (nI St)) 621 t (nI L)) 622 p (nI t)) 623 p (nI (v + 1))) 1206 616 (nI (t + 1))
theorem pgT_all (H : RF m) (hp : p < 8) (ht : t < 4100) (e6 : zI m 1206 616 = nI t) (e3 : zE m 623 p = nI v) (e13 : zI m 1213 616 - nI St = nI L) : pgT17 (nI p) (nI St) m = some (nI L, pgH m p t v L St) := by
  have tp : (nI p).toNatClampNeg = p := zi_nat (by omega)
  have tt : (nI t).toNatClampNeg = t := zi_nat (by omega)
  have i8 : inR (nI p) 8 := zi_in hp (by omega)
  have it : inR (nI t) 4100 := zi_in ht (by omega)
  have k3 : ∀ (g : Hp) (r j : Nat) (x : Int32), r ≠ 623 → zE g 623 p = nI v → zE (pE g r j x) 623 p = nI v := fun g r j x hr hg => by rw [zE_pE, if_neg (fun z => hr z.1.symm)]; exact hg
  have a3 := k3 m 618 t (nI p) (by omega) e3
  have b3 := k3 _ 619 t (nI v) (by omega) a3
  have c3 := k3 _ 620 t (nI St) (by omega) b3
  have d3 := k3 _ 621 t (nI L) (by omega) c3
  have f3 := k3 _ 622 p (nI t) (by omega) d3
  rw [pgT17_e H it tt e6, pgT20_e (m := pE m 618 t (nI p)) H it tt i8 tp e6 a3, pgT25_e (m := pE (pE m 618 t (nI p)) 619 t (nI v)) H it tt e6, pgT28_e (m := pE (pE (pE m 618 t (nI p)) 619 t (nI v)) 620 t (nI St)) H it tt e6 e13, pgT31_e (m := pE (pE (pE (pE m 618 t (nI p)) 619 t (nI v)) 620 t (nI St)) 621 t (nI L)) H i8 tp e6, pgT34_e (m := pE (pE (pE (pE (pE m 618 t (nI p)) 619 t (nI v)) 620 t (nI St)) 621 t (nI L)) 622 p (nI t)) H i8 tp f3, pgT37_e (m := pE (pE (pE (pE (pE (pE m 618 t (nI p)) 619 t (nI v)) 620 t (nI St)) 621 t (nI L)) 622 p (nI t)) 623 p (nI (v + 1))) e6 e13]
  rfl
theorem w_pg26y {g : Hp} (H : RF g) (hp : p < 8) (ht : t < 4100) (e6 : zI g 1206 616 = nI t) (e3 : zE g 623 p = nI v) (e13 : zI g 1213 616 = nI (St + L)) : f_X11_program_26 616 (-1) 616 (nI p) (nI St) 1 g = some (nI L, pgH (pI (pI (pI g 1205 616 (-1)) 1204 616 0) 1200 616 0) p t v L St) := by
  have e : zI (pI (pI g 1205 616 (-1)) 1204 616 0) 1205 616 = -1 := by
    rw [zI_pI, if_neg (by omega), zI_pI, if_pos ⟨rfl, rfl⟩]
  have sb : nI (St + L) - nI St = nI L := by rw [zi_sub (by omega), Nat.add_sub_cancel_left]
  have e6' : zI (pI (pI (pI g 1205 616 (-1)) 1204 616 0) 1200 616 0) 1206 616 = nI t := by
    rw [zI_pI, if_neg (by omega), zI_pI, if_neg (by omega), zI_pI, if_neg (by omega)]; exact e6
  have e13' : zI (pI (pI (pI g 1205 616 (-1)) 1204 616 0) 1200 616 0) 1213 616 - nI St = nI L := by
    rw [zI_pI, if_neg (by omega), zI_pI, if_neg (by omega), zI_pI, if_neg (by omega), e13, sb]
  have := pgT_all (m := pI (pI (pI g 1205 616 (-1)) 1204 616 0) 1200 616 0) (St := St) (L := L) H hp ht e6' e3 e13'
  unfold f_X11_program_26
  rw [ck_yes (RF_o H), bhE, ck_yes (show isO (pI g 1205 616 (-1)) 616 12 from RF_o H), bhE, if_neg (show ¬ (1 : Int32) = 0 by decide), if_pos e]
  exact this
end Pi
section Pj
variable {vs : Nat → List Prg} {c : Nat} {TX : List (Nat × Nat × Nat × Prg)} {K tk : Nat} {h : Hp} {W : Wld} {T : List Int32} {fa : Int32} {St : Nat}
theorem vsLe_up (vs : Nat → List Prg) (p : Nat) (P : Prg) : vsLe vs (upf vs p (vs p ++ [P])) := fun q => by
  unfold upf
  by_cases e : q = p
  · rw [if_pos e, e]; exact List.prefix_append _ _
  · rw [if_neg e]; exact List.prefix_refl _
theorem get_snoc {α : Type} {L : List α} {x y : α} {k : Nat} (h : (L ++ [x])[k]? = some y) : (k < L.length ∧ L[k]? = some y) ∨ (k = L.length ∧ y = x) := by
  by_cases e : k < L.length
  · rw [List.getElem?_append_left e] at h
    exact Or.inl ⟨e, h⟩
  · have e2 : k = L.length := by
      have := (List.getElem?_eq_some_iff.mp h).1
      rw [List.length_append, List.length_singleton] at this
      omega
    rw [e2, List.getElem?_append_right (Nat.le_refl _), Nat.sub_self] at h
    have h : some x = some y := h
    cases h
    exact Or.inr ⟨e2, rfl⟩
theorem get_pre {α : Type} {L : List α} {x y : α} {k : Nat} (h : L[k]? = some y) : (L ++ [x])[k]? = some y := by
  rw [List.getElem?_append_left (List.getElem?_eq_some_iff.mp h).1]; exact h
theorem get_end {α : Type} (L : List α) (x : α) : (L ++ [x])[L.length]? = some x := by
  rw [List.getElem?_append_right (Nat.le_refl _), Nat.sub_self]; rfl
def pgHS (p t a j : Nat) : Prop := (a = 616 ∧ j = 1206) ∨ ((618 ≤ a ∧ a ≤ 621) ∧ j = t) ∨ ((a = 622 ∨ a = 623) ∧ j = p)
theorem pgH_f (m : Hp) (p t v L St : Nat) : frx (pgHS p t) m (pgH m p t v L St) := by
  have e : ∀ {g : Hp} {a : Nat} {x : Int32}, 618 ≤ a → a ≤ 621 → frx (pgHS p t) g (pE g a t x) := fun h1 h2 => frx_pE (Or.inr (Or.inl ⟨⟨h1, h2⟩, rfl⟩))
  have e2 : ∀ {g : Hp} {a : Nat} {x : Int32}, (a = 622 ∨ a = 623) → frx (pgHS p t) g (pE g a p x) := fun h1 => frx_pE (Or.inr (Or.inr ⟨h1, rfl⟩))
  exact ((((((e (by omega) (by omega)).trans (e (by omega) (by omega))).trans (e (by omega) (by omega))).trans (e (by omega) (by omega))).trans (e2 (by omega))).trans (e2 (by omega))).trans (frx_pI (Or.inl ⟨rfl, rfl⟩))
theorem pgH_e (m : Hp) (p t v L St : Nat) : (zE (pgH m p t v L St) 618 t = nI p ∧ zE (pgH m p t v L St) 619 t = nI v ∧ zE (pgH m p t v L St) 620 t = nI St ∧ zE (pgH m p t v L St) 621 t = nI L) ∧ zE (pgH m p t v L St) 622 p = nI t ∧ zE (pgH m p t v L St) 623 p = nI (v + 1) ∧ zI (pgH m p t v L St) 1206 616 = nI (t + 1) := by
  unfold pgH
  refine ⟨⟨?_, ?_, ?_, ?_⟩, ?_, ?_, ?_⟩
  · rw [zE_pI, zE_pE, if_neg (by omega), zE_pE, if_neg (by omega), zE_pE, if_neg (by omega), zE_pE, if_neg (by omega), zE_pE, if_neg (by omega), zE_pE, if_pos ⟨rfl, rfl⟩]
  · rw [zE_pI, zE_pE, if_neg (by omega), zE_pE, if_neg (by omega), zE_pE, if_neg (by omega), zE_pE, if_neg (by omega), zE_pE, if_pos ⟨rfl, rfl⟩]
  · rw [zE_pI, zE_pE, if_neg (by omega), zE_pE, if_neg (by omega), zE_pE, if_neg (by omega), zE_pE, if_pos ⟨rfl, rfl⟩]
  · rw [zE_pI, zE_pE, if_neg (by omega), zE_pE, if_neg (by omega), zE_pE, if_pos ⟨rfl, rfl⟩]
  · rw [zE_pI, zE_pE, if_neg (by omega), zE_pE, if_pos ⟨rfl, rfl⟩]
  · rw [zE_pI, zE_pE, if_pos ⟨rfl, rfl⟩]
  · rw [zI_pI, if_pos ⟨rfl, rfl⟩]
/-- the books hold the new text -/
theorem w_txY {k m : Hp} {p : Nat} {P : Prg} {L : Nat} (hp : p < 8) (T0 : txOK m vs TX) (lt : ltAt m vs TX) (hk : k = pgH m p TX.length (vs p).length L St) (hT : TX.length < 4000) (hL : P.length = L) (hv : (vs p).length < 4000) (hb : St + L ≤ 11100) (st : ∀ j, j < P.length → stAt m (St + j) (stpAt P j)) (pok : prgOK P) : txOK k (upf vs p (vs p ++ [P])) (TX ++ [(p, (vs p).length, St, P)]) ∧ ltAt k (upf vs p (vs p ++ [P])) (TX ++ [(p, (vs p).length, St, P)]) := by
  have f := pgH_f m p TX.length (vs p).length L St
  obtain ⟨⟨e1, e2, e3, e4⟩, e5, e6, e7⟩ := pgH_e m p TX.length (vs p).length L St
  rw [← hk] at f e1 e2 e3 e4 e5
  obtain ⟨t1, t2, t3⟩ := T0
  have stk : ∀ j q, stAt m j q → stAt k j q := fun j q s => s.onR f (fun r h1 h2 => by unfold pgHS; omega)
  refine ⟨⟨by rw [List.length_append, List.length_singleton]; omega, fun t x hx => ?_, fun q v Q hq hQ => ?_⟩, fun q hq => ⟨fun z => ?_, fun z => ?_⟩⟩
  · rcases get_snoc hx with ⟨h1, h2⟩ | ⟨h1, h2⟩
    · obtain ⟨⟨a1, a2, a3, a4⟩, b, c, d, e⟩ := t2 t x h2
      have g : ∀ r, 618 ≤ r → r ≤ 621 → zE k r t = zE m r t := fun r g1 g2 => f.2.2.2 r t (by unfold pgHS; omega)
      refine ⟨⟨by rw [g _ (by omega) (by omega)]; exact a1, by rw [g _ (by omega) (by omega)]; exact a2, by rw [g _ (by omega) (by omega)]; exact a3, by rw [g _ (by omega) (by omega)]; exact a4⟩, b, ?_, fun j hj => stk _ _ (d j hj), e⟩
      obtain ⟨w, hw⟩ := vsLe_up vs p P x.1
      rw [← hw]
      rw [List.getElem?_append_left (List.getElem?_eq_some_iff.mp c).1]
      exact c
    · rw [h1, h2]
      refine ⟨⟨e1, e2, e3, by rw [e4, ← hL]⟩, ⟨hp, by show (vs p).length ≤ _; omega, by show St + P.length ≤ _; omega⟩, ?_, fun j hj => stk _ _ (st j hj), pok⟩
      show (upf vs p (vs p ++ [P]) p)[(vs p).length]? = some P
      rw [show upf vs p (vs p ++ [P]) p = vs p ++ [P] from if_pos rfl]
      exact get_end _ _
  · by_cases e : q = p
    · rw [e, show upf vs p (vs p ++ [P]) p = vs p ++ [P] from if_pos rfl] at hQ
      rcases get_snoc hQ with ⟨h1, h2⟩ | ⟨h1, h2⟩
      · obtain ⟨t, S, hh⟩ := t3 p v Q hp h2
        rw [e]
        exact ⟨t, S, get_pre hh⟩
      · rw [e, h1, h2]
        exact ⟨TX.length, St, get_end _ _⟩
    · rw [show upf vs p (vs p ++ [P]) q = vs q from if_neg e] at hQ
      obtain ⟨t, S, hh⟩ := t3 q v Q hq hQ
      exact ⟨t, S, get_pre hh⟩
  · by_cases e : q = p
    · rw [e, show upf vs p (vs p ++ [P]) p = vs p ++ [P] from if_pos rfl] at z
      simp at z
    · rw [show upf vs p (vs p ++ [P]) q = vs q from if_neg e] at z
      rw [f.2.2.2 622 q (by unfold pgHS; omega)]
      exact (lt q hq).1 z
  · by_cases e : q = p
    · rw [e, show upf vs p (vs p ++ [P]) p = vs p ++ [P] from if_pos rfl, List.length_append, List.length_singleton, Nat.add_sub_cancel]
      exact ⟨TX.length, St, P, e5, get_end _ _⟩
    · rw [show upf vs p (vs p ++ [P]) q = vs q from if_neg e] at z ⊢
      rw [f.2.2.2 622 q (by unfold pgHS; omega)]
      obtain ⟨t, S, Q, h1, h2⟩ := (lt q hq).2 z
      exact ⟨t, S, Q, h1, get_pre h2⟩
theorem w_programY (q : RX vs TX h T fa St) (R : RT vs c TX K tk h W) (hSt : St + 62 < 11100) {p : Nat} (hp : p < 8) (hT : TX.length < 4000) (hv : (vs p).length < 4000) (hf : (prs T).1 = -1) : ∃ h1, f_X11_program 616 (nI p) h = some (nI (prs T).2.length, h1) ∧ RX (upf vs p (vs p ++ [(prs T).2])) (TX ++ [(p, (vs p).length, St, (prs T).2)]) h1 [] (-1) (St + (prs T).2.length) ∧ RT (upf vs p (vs p ++ [(prs T).2])) c (TX ++ [(p, (vs p).length, St, (prs T).2)]) K tk h1 W ∧ frx pgA h h1 ∧ zI h1 1200 616 = 0 := by
  have H := q.1.1
  have t := q.1.2.1
  have pok := (prs_ok t hf).1
  have pl := pok.1
  obtain ⟨g, g1, g2, g3, g4⟩ := w_read q hSt
  obtain ⟨g5, g6⟩ := g4 hf
  obtain ⟨⟨-, -, q1, q2⟩, q3, q4, ⟨q5, q6⟩, q7, q8⟩ := q
  generalize prs T = r at *
  obtain ⟨f9, P⟩ := r
  have hf : f9 = -1 := hf
  subst hf
  have Hg := H.on g2
  have fm : frx (fun a j => a = 616 ∧ (j = 1205 ∨ j = 1204 ∨ j = 1200)) g (pI (pI (pI g 1205 616 (-1)) 1204 616 0) 1200 616 0) := ((frx_pI (S := fun a j => a = 616 ∧ (j = 1205 ∨ j = 1204 ∨ j = 1200)) ⟨rfl, by omega⟩).trans (frx_pI ⟨rfl, by omega⟩)).trans (frx_pI ⟨rfl, by omega⟩)
  have n5 : zI (pI (pI (pI g 1205 616 (-1)) 1204 616 0) 1200 616 0) 1205 616 = -1 := by
    rw [zI_pI, if_neg (by omega), zI_pI, if_neg (by omega), zI_pI, if_pos ⟨rfl, rfl⟩]
  have n4 : zI (pI (pI (pI g 1205 616 (-1)) 1204 616 0) 1200 616 0) 1204 616 = nI 0 := by
    rw [zI_pI, if_neg (by omega), zI_pI, if_pos ⟨rfl, rfl⟩]; rfl
  have n0 : zI (pI (pI (pI g 1205 616 (-1)) 1204 616 0) 1200 616 0) 1200 616 = 0 := by
    rw [zI_pI, if_pos ⟨rfl, rfl⟩]
  have e := w_pg26y Hg hp (by omega : TX.length < 4100) ((g2.2.2.1 1206 (by unfold pgF; omega)).trans q4) ((g2.2.2.2 623 p (by unfold pgF; omega)).trans (q7 p hp)) g5
  generalize pI (pI (pI g 1205 616 (-1)) 1204 616 0) 1200 616 0 = m at *
  have fh := pgH_f m p TX.length (vs p).length P.length St
  obtain ⟨-, -, e6, e7⟩ := pgH_e m p TX.length (vs p).length P.length St
  have f1 : frx (fun a j => pgF St a j ∨ a = 616) h m := (g2.mono (fun a j z => Or.inl z)).trans (fm.mono (fun a j z => Or.inr z.1))
  have f2 : frx (fun a j => pgF St a j ∨ a = 616 ∨ pgHS p TX.length a j) h (pgH m p TX.length (vs p).length P.length St) := (f1.mono (fun a j z => z.elim Or.inl (fun y => Or.inr (Or.inl y)))).trans (fh.mono (fun a j z => Or.inr (Or.inr z)))
  have fA : frx pgA h (pgH m p TX.length (vs p).length P.length St) := ((g2.mono (fun a j z => by unfold pgF at z; unfold pgA; omega)).trans (fm.mono (fun a j z => by unfold pgA; omega))).trans (fh.mono (fun a j z => by unfold pgHS at z; unfold pgA; omega))
  have okm : ∀ K, okR m K := fun K => (g3 K).same (fun r h1 h2 => fm.2.2.2 r K (by omega))
  have T0 : txOK m vs TX := R.tx.1.onP (St := St) f1 (fun a j _ _ => by unfold pgF; omega) (fun a j _ _ _ => by unfold pgF; omega) q6
  have L0 : ltAt m vs TX := fun x hx => by
    rw [f1.2.2.2 622 x (by unfold pgF; omega)]
    exact R.2.1 x hx
  obtain ⟨Y1, Y2⟩ := w_txY hp T0 L0 rfl hT rfl hv (by show St + P.length ≤ _; have : P.length ≤ 60 := pl; omega) (fun j hj => (g6 j hj).onR fm (fun r _ _ => by omega)) pok
  refine ⟨_, ?_, ⟨⟨H.on f2, txt0, ?_, fun k x hk => by simp at hk⟩, ?_, ?_, ⟨?_, fun x hx => ?_⟩, fun x hx => ?_, fun K => (okm K).same (fun r h1 h2 => fh.2.2.2 r K (by unfold pgHS; omega))⟩, R.new fA (fun a j z => z) (vsLe_up vs p P) Y1 Y2 (fun x hx => ?_), fA, ?_⟩
  · have ny : ¬ (nI p < 0 ∨ 8 ≤ nI p) := fun z => by
      rcases z with z | z
      · exact zi_neg (by omega) z
      · have z : nI 8 ≤ nI p := z
        rw [zi_le (by omega) (by omega)] at z
        omega
    unfold f_X11_program
    rw [ck_yes (RF_o H), q5]
    unfold bh
    dsimp only
    rw [w_yes ny, bind_some9]
    dsimp only
    rw [if_neg (show ¬ (1 : Int32) = 0 by decide), ck_yes (RF_o H), g1, bind_some9]
    exact e
  · rw [fh.2.2.1 1204 (by unfold pgHS; omega), n4]; rfl
  · rw [fh.2.2.1 1205 (by unfold pgHS; omega), n5]
  · rw [e7, List.length_append, List.length_singleton]
  · rw [fh.2.2.1 1213 (by unfold pgHS; omega), fm.2.2.1 1213 (by omega)]; exact g5
  · rcases List.mem_append.mp hx with z | z
    · have := q6 x z
      show _ ≤ St + P.length
      omega
    · rw [List.mem_singleton.mp z]
      exact Nat.le_refl _
  · by_cases ex : x = p
    · rw [ex, e6, show upf vs p (vs p ++ [P]) p = vs p ++ [P] from if_pos rfl, List.length_append, List.length_singleton]
    · rw [show upf vs p (vs p ++ [P]) x = vs x from if_neg ex, fh.2.2.2 623 x (by unfold pgHS; omega), f1.2.2.2 623 x (by unfold pgF; omega)]
      exact q7 x hx
  · by_cases ex : x = p
    · rw [ex, show upf vs p (vs p ++ [P]) p = vs p ++ [P] from if_pos rfl, List.length_append, List.length_singleton]
      omega
    · rw [show upf vs p (vs p ++ [P]) x = vs x from if_neg ex]
      exact R.tx.2 x hx
  · rw [fh.2.2.1 1200 (by unfold pgHS; omega), n0]
theorem w_fault (q : RX vs TX h T fa St) (R : RT vs c TX K tk h W) : ∃ h1, f_X11_fault 616 h = some (fa, h1) ∧ RX vs TX h1 T fa St ∧ RT vs c TX K tk h1 W ∧ frx (fun a j => a = 616 ∧ j = 1200) h h1 := by
  have f0 : frx (fun a j => a = 616 ∧ j = 1200) h (pI h 1200 616 0) := frx_pI ⟨rfl, rfl⟩
  refine ⟨pI h 1200 616 0, ?_, q.on f0 (fun j hj => by omega) (fun r j hr => by omega), R.new f0 (fun a j z => by omega) (vsLe.rf vs) (R.tx.1.on f0 (fun a j _ _ => by omega)) (fun p hp => ?_) R.tx.2, f0⟩
  · unfold f_X11_fault
    rw [ck_yes (RF_o q.1.1), bhE, zI_pI, if_neg (by omega), q.2.1]
  · rw [f0.2.2.2 622 p (by omega)]; exact R.2.1 p hp
end Pj
