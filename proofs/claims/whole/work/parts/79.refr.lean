/-! THE REFERENCE READS A PROGRAM -/
def rA (h : Hp) (T : List Int32) (a K : Nat) : Prop := RF h ∧ (zI h 1204 616 = nI T.length ∧ zI h 1223 616 = nI a ∧ a ≤ T.length) ∧ (zI h 1213 616 = nI K ∧ K < 11100) ∧ txt T ∧ ∀ (k : Nat) (c : Int32), T[k]? = some c → zE h 617 k = c
def seS (a j : Nat) : Prop := a = 616 ∧ j = 1223
def rpS (K a j : Nat) : Prop := (a = 616 ∧ j = 1223) ∨ (624 ≤ a ∧ a ≤ 631 ∧ j = K)
section Rd
variable {h : Hp} {T : List Int32} {a K : Nat}
theorem rA.on {h1 : Hp} {S : Nat → Nat → Prop} {b : Nat} (q : rA h T a K) (f : frx S h h1) (s1 : ¬ S 616 1204) (s2 : ¬ S 616 1213) (s3 : ∀ j, ¬ S 617 j) (e : zI h1 1223 616 = nI b) (hb : b ≤ T.length) : rA h1 T b K := by
  obtain ⟨H, ⟨q1, q2, q3⟩, ⟨q4, q5⟩, t, c⟩ := q
  exact ⟨H.on f, ⟨(f.2.2.1 _ s1).trans q1, e, hb⟩, ⟨(f.2.2.1 _ s2).trans q4, q5⟩, t, fun k x hk => (f.2.2.2 617 k (s3 k)).trans (c k x hk)⟩
theorem rA.onP {h1 : Hp} {b : Nat} (q : rA h T a K) (f : frx (rpS K) h h1) (e : zI h1 1223 616 = nI b) (hb : b ≤ T.length) : rA h1 T b K := q.on f (by unfold rpS; omega) (by unfold rpS; omega) (fun j => by unfold rpS; omega) e hb
theorem rA.mv (q : rA h T a K) (ha : a < T.length) : rA (pI h 1223 616 (nI (a + 1))) T (a + 1) K := q.onP (frx_pI (Or.inl ⟨rfl, rfl⟩)) (by rw [zI_pI, if_pos ⟨rfl, rfl⟩]) ha
theorem rA.put (q : rA h T a K) {r : Nat} (hr : 624 ≤ r ∧ r ≤ 631) (x : Int32) : rA (pE h r K x) T a K ∧ frx (rpS K) h (pE h r K x) := ⟨q.onP (frx_pE (Or.inr ⟨hr.1, hr.2, rfl⟩)) q.2.1.2.1 q.2.1.2.2, frx_pE (Or.inr ⟨hr.1, hr.2, rfl⟩)⟩
theorem w_see (q : rA h T a K) : f_X11_see 616 h = some (pk T a, h) := by
  obtain ⟨H, ⟨q1, q2, q3⟩, ⟨q4, q5⟩, t, c⟩ := q
  have tl := t.1
  unfold f_X11_see
  rw [ck_yes (RF_o H), q1, q2]
  by_cases al : a < T.length
  · rw [if_neg (zi_le0 (by omega) (by omega) (by omega)), RF_1203 H, ck_yes (RO_617 H), RL_617 H, ck_yes (zi_in (by omega : a < 300) (by omega)), zi_nat (by omega)]
    obtain ⟨x, x1, x2, x3, x4⟩ := pk_iq t al
    rw [c a _ x4, x3]
  · rw [if_pos ((zi_le (by omega) (by omega)).mpr (by omega)), pk_end (by omega)]
theorem w_tkY (q : rA h T a K) {c : Int32} (e : pk T a = c) : f_X11_takes 616 c h = some (1, pI h 1223 616 (nI (a + 1))) := by
  unfold f_X11_takes
  rw [ck_yes (RF_o q.1), w_see q, bind_some9]
  dsimp only
  rw [if_pos e, ck_yes (RF_o q.1), q.2.1.2.1, zi_one]
  rfl
theorem w_tkN (q : rA h T a K) {c : Int32} (e : ¬ pk T a = c) : f_X11_takes 616 c h = some (0, h) := by
  unfold f_X11_takes
  rw [ck_yes (RF_o q.1), w_see q, bind_some9]
  dsimp only
  rw [if_neg e]
theorem w_dig (q : rA h T a K) : f_X11_isDigit 616 h = some (if pk T a < 48 ∨ 57 < pk T a then 0 else 1, h) := by
  unfold f_X11_isDigit
  rw [ck_yes (RF_o q.1), w_see q, bind_some9]
  dsimp only
  by_cases c1 : pk T a < 48
  · rw [if_pos c1, if_pos (Or.inl c1)]
  · rw [if_neg c1, ck_yes (RF_o q.1), w_see q, bind_some9]
    dsimp only
    by_cases c2 : 57 < pk T a
    · rw [if_pos c2, if_pos (Or.inr c2)]
    · rw [if_neg c2, if_neg (fun z => z.elim c1 c2)]
theorem w_let (q : rA h T a K) : f_X11_isLetter 616 h = some (if pk T a < 97 ∨ 104 < pk T a then 0 else 1, h) := by
  unfold f_X11_isLetter
  rw [ck_yes (RF_o q.1), w_see q, bind_some9]
  dsimp only
  by_cases c1 : pk T a < 97
  · rw [if_pos c1, if_pos (Or.inl c1)]
  · rw [if_neg c1, ck_yes (RF_o q.1), w_see q, bind_some9]
    dsimp only
    by_cases c2 : 104 < pk T a
    · rw [if_pos c2, if_pos (Or.inr c2)]
    · rw [if_neg c2, if_neg (fun z => z.elim c1 c2)]
/-- a value's two rows -/
def rwB (b : Bool) : Nat := if b = true then 628 else 626
def vS (b : Bool) (K a j : Nat) : Prop := (a = 616 ∧ j = 1223) ∨ ((a = rwB b ∨ a = rwB b + 1) ∧ j = K)
theorem vS.rp {b : Bool} {K a j : Nat} (z : vS b K a j) : rpS K a j := by
  unfold vS rwB at z
  unfold rpS
  cases b
  · rw [if_neg (show ¬ false = true from fun z => by cases z)] at z; omega
  · rw [if_pos rfl] at z; omega
def vE (h : Hp) (b : Bool) (K : Nat) (q : Int32 × Int32) : Prop := (q.1 = -1 ∧ zE h (rwB b) K = 0 ∧ zE h (rwB b + 1) K = q.2) ∨ ∃ v, v < 8 ∧ q.1 = nI v ∧ zE h (rwB b) K = 1 ∧ zE h (rwB b + 1) K = nI v
theorem w_v52 {l1 l2 l4 : Int32} : ∀ (n d fuel : Nat) (v : Int32) (a : Nat) (h : Hp), rA h T a K → d + n = 5 → n < fuel → ∃ h1, f_X11_value_52 fuel 616 l1 l2 v l4 (nI d) h = f_X11_value_94 616 l1 l2 (pDg T n v a).1 l4 h1 ∧ rA h1 T (pDg T n v a).2 K ∧ frx seS h h1
  | n, d, 0, _, _, _, _, _, hf => absurd hf (Nat.not_lt_zero _)
  | 0, d, fuel + 1, v, a, h, q, hd, _ => by
    have hd : d = 5 := hd
    subst hd
    refine ⟨h, ?_, q, frx.rf h⟩
    unfold f_X11_value_52
    rw [if_pos (by decide)]
    rfl
  | n + 1, d, fuel + 1, v, a, h, q, hd, hf => by
    have c5 : ¬ (5 : Int32) ≤ nI d := fun z => by
      have z : nI 5 ≤ nI d := z
      rw [zi_le (by omega) (by omega)] at z
      omega
    unfold f_X11_value_52 pDg
    rw [if_neg c5, ck_yes (RF_o q.1), w_dig q, bind_some9]
    dsimp only
    by_cases c : pk T a < 48 ∨ 57 < pk T a
    · rw [if_pos c, if_pos c, if_pos rfl]
      exact ⟨h, rfl, q, frx.rf h⟩
    · rw [if_neg c, if_neg c, if_neg (by decide), ck_yes (RF_o q.1), w_see q, bind_some9]
      dsimp only
      have al := pk_ge (T := T) (a := a) (c := 48) (by decide) (fun y => c (Or.inl y))
      obtain ⟨h1, x1, x2, x3⟩ := w_v52 n (d + 1) fuel (10 * v + pk T a - 48) (a + 1) _ (q.mv al) (by omega) (by omega)
      refine ⟨h1, ?_, x2, (frx_pI (S := seS) ⟨rfl, rfl⟩).trans x3⟩
      unfold bh
      dsimp only
      rw [ck_yes (RF_o q.1), q.2.1.2.1, zi_one, zi_one]
      exact x1
def b1I (b : Bool) : Int32 := if b = true then 1 else 0
theorem w_v106 {b : Bool} {l2 l3 : Int32} (hl : l2 = 0 ∨ l2 = 1) (q : rA h T a K) : ∃ h1, f_X11_value_106 616 (b1I b) l2 l3 h = some (1, h1) ∧ rA h1 T a K ∧ frx (vS b K) h h1 ∧ zE h1 (rwB b) K = l2 ∧ zE h1 (rwB b + 1) K = l3 := by
  have l2e : l2 &&& 1 = l2 := by rcases hl with rfl | rfl <;> decide
  have H := q.1
  obtain ⟨q4, q5⟩ := q.2.2.1
  have tK : (nI K).toNatClampNeg = K := zi_nat (by omega)
  cases b with
  | false =>
    have e : f_X11_value_106 616 (b1I false) l2 l3 h = some (1, pE (pE h 626 K l2) 627 K l3) := by
      unfold f_X11_value_106
      rw [if_pos (show b1I false = 0 from rfl), ck_yes (RF_o H), RF_1216 H, ck_yes (RO_626 H), q4, RL_626 H, ck_yes (zi_in q5 (by omega)), tK, l2e]
      unfold bh
      dsimp only
      rw [show zR (pE h 626 K l2) 1217 616 = zR h 1217 616 from rfl, RF_1217 H, ck_yes (show isO (pE h 626 K l2) 627 22 from RO_627 H), show zI (pE h 626 K l2) 1213 616 = zI h 1213 616 from rfl, q4, show zL (pE h 626 K l2) 627 = zL h 627 from rfl, RL_627 H, ck_yes (zi_in q5 (by omega)), tK]
    have f : frx (vS false K) h (pE (pE h 626 K l2) 627 K l3) := (frx_pE (Or.inr ⟨Or.inl rfl, rfl⟩)).trans (frx_pE (Or.inr ⟨Or.inr rfl, rfl⟩))
    refine ⟨_, e, q.onP (f.mono (fun a j z => z.rp)) q.2.1.2.1 q.2.1.2.2, f, ?_, ?_⟩
    · show zE (pE (pE h 626 K l2) 627 K l3) 626 K = l2
      rw [zE_pE, if_neg (by omega), zE_pE, if_pos ⟨rfl, rfl⟩]
    · show zE (pE (pE h 626 K l2) 627 K l3) 627 K = l3
      rw [zE_pE, if_pos ⟨rfl, rfl⟩]
  | true =>
    have e : f_X11_value_106 616 (b1I true) l2 l3 h = some (1, pE (pE h 628 K l2) 629 K l3) := by
      unfold f_X11_value_106
      rw [if_neg (show ¬ b1I true = 0 by decide), ck_yes (RF_o H), RF_1218 H, ck_yes (RO_628 H), q4, RL_628 H, ck_yes (zi_in q5 (by omega)), tK, l2e]
      unfold bh
      dsimp only
      rw [show zR (pE h 628 K l2) 1219 616 = zR h 1219 616 from rfl, RF_1219 H, ck_yes (show isO (pE h 628 K l2) 629 22 from RO_629 H), show zI (pE h 628 K l2) 1213 616 = zI h 1213 616 from rfl, q4, show zL (pE h 628 K l2) 629 = zL h 629 from rfl, RL_629 H, ck_yes (zi_in q5 (by omega)), tK]
    have f : frx (vS true K) h (pE (pE h 628 K l2) 629 K l3) := (frx_pE (Or.inr ⟨Or.inl rfl, rfl⟩)).trans (frx_pE (Or.inr ⟨Or.inr rfl, rfl⟩))
    refine ⟨_, e, q.onP (f.mono (fun a j z => z.rp)) q.2.1.2.1 q.2.1.2.2, f, ?_, ?_⟩
    · show zE (pE (pE h 628 K l2) 629 K l3) 628 K = l2
      rw [zE_pE, if_neg (by omega), zE_pE, if_pos ⟨rfl, rfl⟩]
    · show zE (pE (pE h 628 K l2) 629 K l3) 629 K = l3
      rw [zE_pE, if_pos ⟨rfl, rfl⟩]
/-- what a value's reading leaves -/
def vOut (b : Bool) (K : Nat) (h : Hp) (T : List Int32) (r : Bool × Nat × Int32 × Int32) (x : Option (Int32 × Hp)) : Prop := ∃ h1, x = some (if r.1 = true then 1 else 0, h1) ∧ rA h1 T r.2.1 K ∧ frx (vS b K) h h1 ∧ (r.1 = true → vE h1 b K r.2.2) ∧ (r.1 = false → zE h1 = zE h)
theorem w_rdV (q : rA h T a K) (b : Bool) : vOut b K h T (pVl T a) (f_X11_value 616 (b1I b) h) := by
  have H := q.1
  unfold pVl
  by_cases c : pk T a < 97 ∨ 104 < pk T a
  · rw [if_pos c]
    -- the sign
    have sg : ∃ h0, f_X11_takes 616 45 h = some (if (pTk T 45 a).1 = true then 1 else 0, h0) ∧ rA h0 T (pTk T 45 a).2 K ∧ frx seS h h0 ∧ zE h0 = zE h := by
      unfold pTk
      by_cases e : pk T a = 45
      · rw [if_pos e]
        exact ⟨_, w_tkY q e, q.mv (pk_lq (by decide) e), frx_pI ⟨rfl, rfl⟩, rfl⟩
      · rw [if_neg e]
        exact ⟨_, w_tkN q e, q, frx.rf h, rfl⟩
    obtain ⟨h0, s1, s2, s3, s4⟩ := sg
    generalize hs : pTk T 45 a = sa at *
    have e0 : f_X11_value 616 (b1I b) h = if pk T sa.2 < 48 ∨ 57 < pk T sa.2 then some (0, h0) else f_X11_value_52 fz 616 (b1I b) 0 0 (if sa.1 = true then 1 else 0) (nI 0) h0 := by
      unfold f_X11_value
      rw [ck_yes (RF_o H), w_let q, bind_some9]
      dsimp only
      rw [if_pos c, if_pos rfl, ck_yes (RF_o H), s1, bind_some9]
      dsimp only
      rw [ck_yes (RF_o s2.1), w_dig s2, bind_some9]
      dsimp only
      by_cases d : pk T sa.2 < 48 ∨ 57 < pk T sa.2
      · rw [if_pos d, if_pos d, if_pos rfl]
      · rw [if_neg d, if_neg d, if_neg (by decide)]
        rfl
    rw [e0]
    by_cases d : pk T sa.2 < 48 ∨ 57 < pk T sa.2
    · rw [if_pos d]
      have z : pDg T 5 0 sa.2 = (0, sa.2) := by
        show (if pk T sa.2 < 48 ∨ 57 < pk T sa.2 then _ else _) = _
        rw [if_pos d]
      rw [z]
      have nn : decide (sa.2 < sa.2) = false := decide_eq_false (by omega)
      dsimp only
      rw [nn]
      exact ⟨h0, rfl, s2, s3.mono (fun a j z => Or.inl z), (fun z => by cases z), fun _ => s4⟩
    · rw [if_neg d]
      obtain ⟨h1, x1, x2, x3⟩ := w_v52 (l1 := b1I b) (l2 := 0) (l4 := if sa.1 = true then 1 else 0) 5 0 fz 0 sa.2 h0 s2 rfl (fz_big (by omega))
      have gt : sa.2 < (pDg T 5 0 sa.2).2 := by
        have e : pDg T 5 0 sa.2 = pDg T 4 (10 * 0 + pk T sa.2 - 48) (sa.2 + 1) := by
          show (if pk T sa.2 < 48 ∨ 57 < pk T sa.2 then _ else _) = _
          rw [if_neg d]
        have al := pk_ge (T := T) (a := sa.2) (c := 48) (by decide) (fun y => d (Or.inl y))
        have := (pDg_le (T := T) 4 (10 * 0 + pk T sa.2 - 48) (sa.2 + 1) al).1
        rw [e]
        omega
      generalize pDg T 5 0 sa.2 = dd at *
      obtain ⟨h2, y1, y2, y3, y4, y5⟩ := w_v106 (b := b) (l2 := 0) (l3 := if sa.1 = true then -dd.1 else dd.1) (Or.inl rfl) x2
      have nn : decide (sa.2 < dd.2) = true := decide_eq_true gt
      rw [nn, x1]
      refine ⟨h2, ?_, y2, ((s3.trans x3).mono (fun a j z => Or.inl z)).trans y3, fun _ => Or.inl ⟨rfl, y4, y5⟩, fun z => by cases z⟩
      unfold f_X11_value_94 f_X11_value_105
      cases e : sa.1 with
      | true =>
        rw [e, if_pos rfl] at y1
        rw [if_pos rfl, if_neg (by decide)]
        exact y1
      | false =>
        rw [e, if_neg (fun z => Bool.noConfusion z)] at y1
        rw [if_neg (fun z => Bool.noConfusion z), if_pos rfl, if_pos rfl]
        exact y1
  · rw [if_neg c]
    have al := pk_ge (T := T) (a := a) (c := 97) (by decide) (fun y => c (Or.inl y))
    obtain ⟨v, v1, v2⟩ := pk_local q.2.2.2.1 c
    obtain ⟨h2, y1, y2, y3, y4, y5⟩ := w_v106 (b := b) (l2 := 1) (l3 := pk T a - 97) (Or.inr rfl) (q.mv al)
    refine ⟨h2, ?_, y2, (frx_pI (S := vS b K) (Or.inl ⟨rfl, rfl⟩)).trans y3, fun _ => Or.inr ⟨v, v1, v2, y4, y5.trans v2⟩, fun z => by cases z⟩
    unfold f_X11_value
    rw [ck_yes (RF_o H), w_let q, bind_some9]
    dsimp only
    rw [if_neg c, if_neg (by decide), ck_yes (RF_o H), w_see q, bind_some9]
    unfold bh
    dsimp only
    rw [ck_yes (RF_o H), q.2.1.2.1, zi_one]
    exact y1
end Rd
/-! the reference reads a step -/
def okR (h : Hp) (K : Nat) : Prop := (∃ it, it < 8 ∧ zE h 625 K = nI it) ∧ vlOK (zE h 626 K) (zE h 627 K) ∧ vlOK (zE h 628 K) (zE h 629 K)
def stR (h : Hp) (K op : Nat) (q : StpQ) (d : Nat) : Prop :=
  (∃ it, it < 8 ∧ zE h 625 K = nI it ∧ (stSets q.1 → q.2.1 = nI it)) ∧ vlOK (zE h 626 K) (zE h 627 K) ∧ vlOK (zE h 628 K) (zE h 629 K) ∧
  (op ≠ 7 → op ≠ 13 → ∀ V, vlOf V (zE h 626 K) (zE h 627 K) = valOf V q.2.2.2.1) ∧ ((op = 1 ∨ op = 2 ∨ op = 3 ∨ op = 4 ∨ op = 5 ∨ op = 11) → ∀ V, vlOf V (zE h 628 K) (zE h 629 K) = valOf V q.2.2.2.2) ∧
    ((op = 0 ∧ q.1 = 43 ∧ q.2.2.2.2 = (-1, 0)) ∨ (op = 1 ∧ q.1 = 43) ∨ (op = 2 ∧ q.1 = 45) ∨ (op = 3 ∧ q.1 = 42) ∨ (op = 4 ∧ q.1 = 60) ∨ (op = 5 ∧ q.1 = 61) ∨ (op = 6 ∧ q.1 = 65 ∧ zE h 630 K = q.2.2.1) ∨ (op = 7 ∧ q.1 = 87) ∨ (op = 8 ∧ q.1 = 67 ∧ zE h 630 K = q.2.2.1) ∨ (op = 9 ∧ q.1 = 74) ∨ (op = 10 ∧ q.1 = 84) ∨ (op = 11 ∧ q.1 = 83) ∨ (op = 12 ∧ q.1 = 73 ∧ zE h 630 K = q.2.2.1 ∧ zE h 631 K = nI d) ∨ (op = 13 ∧ q.1 = 71 ∧ zE h 630 K = q.2.2.1 ∧ zE h 631 K = nI d) ∨ (op = 14 ∧ q.1 = 69))
def stP (h : Hp) (K : Nat) (q : StpQ) (d : Nat) : Prop := ∃ op, op < 15 ∧ zE h 624 K = nI op ∧ stR h K op q d
theorem stR.ok {h : Hp} {K op : Nat} {q : StpQ} {d : Nat} (s : stR h K op q d) : okR h K := by
  obtain ⟨⟨it, i1, i2, -⟩, v1, v2, -⟩ := s
  exact ⟨⟨it, i1, i2⟩, v1, v2⟩
theorem stR.same {h h1 : Hp} {K K1 op : Nat} {q : StpQ} {d : Nat} (s : stR h K op q d) (e : ∀ r, 625 ≤ r → r ≤ 631 → zE h1 r K1 = zE h r K) : stR h1 K1 op q d := by
  unfold stR at s ⊢
  rw [e 625 (by omega) (by omega), e 626 (by omega) (by omega), e 627 (by omega) (by omega), e 628 (by omega) (by omega), e 629 (by omega) (by omega), e 630 (by omega) (by omega), e 631 (by omega) (by omega)]
  exact s
theorem okR.same {h h1 : Hp} {K K1 : Nat} (s : okR h K) (e : ∀ r, 625 ≤ r → r ≤ 629 → zE h1 r K1 = zE h r K) : okR h1 K1 := by
  unfold okR at s ⊢
  rw [e 625 (by omega) (by omega), e 626 (by omega) (by omega), e 627 (by omega) (by omega), e 628 (by omega) (by omega), e 629 (by omega) (by omega)]
  exact s
theorem vE.ok {h : Hp} {b : Bool} {K : Nat} {q : Int32 × Int32} (s : vE h b K q) : vlOK (zE h (rwB b) K) (zE h (rwB b + 1) K) ∧ ∀ V, vlOf V (zE h (rwB b) K) (zE h (rwB b + 1) K) = valOf V q := by
  rcases s with ⟨s1, s2, s3⟩ | ⟨v, v1, v2, v3, v4⟩
  · rw [s2, s3]
    refine ⟨Or.inl rfl, fun V => ?_⟩
    unfold vlOf valOf
    rw [if_pos rfl, if_pos s1]
  · rw [v3, v4]
    refine ⟨Or.inr ⟨v, v1, rfl, rfl⟩, fun V => ?_⟩
    unfold vlOf valOf
    rw [if_neg (by decide), v2, if_neg (zi_ne1 (by omega))]
theorem vE.same {h h1 : Hp} {b : Bool} {K : Nat} {q : Int32 × Int32} (s : vE h b K q) (e : ∀ r, (r = rwB b ∨ r = rwB b + 1) → zE h1 r K = zE h r K) : vE h1 b K q := by
  unfold vE at s ⊢
  rw [e _ (Or.inl rfl), e _ (Or.inr rfl)]
  exact s
section Rs
variable {h : Hp} {T : List Int32} {a K : Nat}
theorem okR.V {b : Bool} {h1 : Hp} {q : Int32 × Int32} (s : okR h K) (f : frx (vS b K) h h1) (v : vE h1 b K q) : okR h1 K := by
  obtain ⟨⟨it, i1, i2⟩, v1, v2⟩ := s
  have k := v.ok.1
  cases b with
  | false =>
    have g : ∀ r, (r = 625 ∨ r = 628 ∨ r = 629) → zE h1 r K = zE h r K := fun r hr => f.2.2.2 r K (by unfold vS rwB; rw [if_neg (show ¬ false = true from fun z => by cases z)]; omega)
    exact ⟨⟨it, i1, (g 625 (by omega)).trans i2⟩, k, by rw [g 628 (by omega), g 629 (by omega)]; exact v2⟩
  | true =>
    have g : ∀ r, (r = 625 ∨ r = 626 ∨ r = 627) → zE h1 r K = zE h r K := fun r hr => f.2.2.2 r K (by unfold vS rwB; rw [if_pos rfl]; omega)
    exact ⟨⟨it, i1, (g 625 (by omega)).trans i2⟩, by rw [g 626 (by omega), g 627 (by omega)]; exact v1, k⟩
theorem w_takes (q : rA h T a K) {c : Int32} (hc : c ≠ 0) : ∃ h1, f_X11_takes 616 c h = some (if (pTk T c a).1 = true then 1 else 0, h1) ∧ rA h1 T (pTk T c a).2 K ∧ frx seS h h1 ∧ zE h1 = zE h := by
  unfold pTk
  by_cases e : pk T a = c
  · rw [if_pos e]
    exact ⟨_, w_tkY q e, q.mv (pk_lq hc e), frx_pI ⟨rfl, rfl⟩, rfl⟩
  · rw [if_neg e]
    exact ⟨_, w_tkN q e, q, frx.rf h, rfl⟩
theorem w_brk (q : rA h T a K) (ok : okR h K) : ∃ h1, f_X11_bracketed 616 h = some (if (pBr T a).1 = true then 1 else 0, h1) ∧ rA h1 T (pBr T a).2.1 K ∧ frx (vS false K) h h1 ∧ okR h1 K ∧ ((pBr T a).1 = true → vE h1 false K (pBr T a).2.2) := by
  obtain ⟨m, m1, m2, m3, m4⟩ := w_takes q (c := 40) (by decide)
  have okm : okR m K := ok.same (fun r _ _ => by rw [m4])
  unfold pBr f_X11_bracketed
  rw [ck_yes (RF_o q.1), m1, bind_some9]
  dsimp only
  cases c1 : (pTk T 40 a).1 with
  | false =>
    rw [if_neg (fun z => Bool.noConfusion z), if_pos rfl, if_pos rfl]
    exact ⟨m, rfl, m2, m3.mono (fun a j z => Or.inl z), okm, fun z => by cases z⟩
  | true =>
    rw [if_pos rfl, if_neg (by decide), if_neg (show ¬ true = false from fun z => by cases z), ck_yes (RF_o m2.1)]
    obtain ⟨k, k1, k2, k3, k4, k5⟩ := w_rdV m2 false
    rw [show f_X11_value 616 0 m = _ from k1, bind_some9]
    dsimp only
    cases c2 : (pVl T (pTk T 40 a).2).1 with
    | false =>
      rw [if_neg (fun z => Bool.noConfusion z), if_pos rfl, if_pos rfl]
      exact ⟨k, rfl, k2, (m3.mono (fun a j z => Or.inl z)).trans k3, okm.same (fun r _ _ => by rw [k5 c2]), fun z => by cases z⟩
    | true =>
      rw [if_pos rfl, if_neg (by decide), if_neg (show ¬ true = false from fun z => by cases z), ck_yes (RF_o k2.1)]
      obtain ⟨g, g1, g2, g3, g4⟩ := w_takes k2 (c := 41) (by decide)
      rw [g1, bind_some9]
      dsimp only
      have v := k4 c2
      refine ⟨g, ?_, g2, ((m3.mono (fun a j z => Or.inl z)).trans k3).trans (g3.mono (fun a j z => Or.inl z)), (okm.V k3 v).same (fun r _ _ => by rw [g4]), fun _ => v.same (fun r _ => by rw [g4])⟩
      cases (pTk T 41 (pVl T (pTk T 40 a).2).2.1).1
      · rw [if_neg (fun z => Bool.noConfusion z), if_pos rfl]
      · rw [if_pos rfl, if_neg (by decide)]
def nmS (K a j : Nat) : Prop := (a = 616 ∧ j = 1223) ∨ ((a = 630 ∨ a = 631) ∧ j = K)
theorem sub48 : ∀ x : Nat, 48 ≤ x → x ≤ 57 → (((nI x - 48 < (10 : Int32)) ∧ (nI x - 48 < (8 : Int32) ↔ ¬ 55 < nI x))) := by
  intro x h1 h2
  have : x = 48 ∨ x = 49 ∨ x = 50 ∨ x = 51 ∨ x = 52 ∨ x = 53 ∨ x = 54 ∨ x = 55 ∨ x = 56 ∨ x = 57 := by omega
  rcases this with e | e | e | e | e | e | e | e | e | e <;> subst e <;> decide
theorem pk_dig {T : List Int32} (hT : txt T) {a : Nat} (c : ¬ (pk T a < 48 ∨ 57 < pk T a)) : ∃ x : Nat, 48 ≤ x ∧ x ≤ 57 ∧ pk T a = nI x := by
  obtain ⟨x, x1, x2, -⟩ := pk_nat hT a
  rw [x2] at c
  have c1 : ¬ nI x < nI 48 := fun z => c (Or.inl z)
  have c2 : ¬ nI 57 < nI x := fun z => c (Or.inr z)
  rw [zi_lt (by omega) (by omega)] at c1 c2
  exact ⟨x, by omega, by omega, x2⟩
theorem w_num (q : rA h T a K) {l last : Int32} (hl : (l = 10 ∧ last = 57) ∨ (l = 8 ∧ last = 55)) : ∃ h1, f_X11_number 616 l h = some (if (pNm T last a).1 = true then 1 else 0, h1) ∧ rA h1 T (pNm T last a).2.1 K ∧ frx (nmS K) h h1 ∧ ((pNm T last a).1 = true → zE h1 630 K = (pNm T last a).2.2 ∧ zE h1 631 K = nI a) := by
  have H := q.1
  obtain ⟨q4, q5⟩ := q.2.2.1
  have tK : (nI K).toNatClampNeg = K := zi_nat (by omega)
  obtain ⟨qm, fm⟩ := q.put (r := 631) (by omega) (nI a)
  have fm : frx (nmS K) h (pE h 631 K (nI a)) := frx_pE (Or.inr ⟨Or.inr rfl, rfl⟩)
  have Hm := qm.1
  have base : f_X11_number 616 l h = (if pk T a < 48 ∨ 57 < pk T a then some (0, pE h 631 K (nI a)) else if pk T a - 48 < l then some (1, pI (pE (pE h 631 K (nI a)) 630 K (pk T a - 48)) 1223 616 (nI (a + 1))) else some (0, pE h 631 K (nI a))) := by
    unfold f_X11_number
    rw [ck_yes (RF_o H), RF_1221 H, ck_yes (RO_631 H), q4, RL_631 H, ck_yes (zi_in q5 (by omega)), tK, q.2.1.2.1]
    unfold bh
    dsimp only
    rw [w_dig qm, bind_some9]
    dsimp only
    by_cases c : pk T a < 48 ∨ 57 < pk T a
    · rw [if_pos c, if_pos c, if_pos rfl]
    · rw [if_neg c, if_neg c, if_neg (by decide), ck_yes (RF_o Hm), w_see qm, bind_some9]
      dsimp only
      by_cases d : pk T a - 48 < l
      · rw [if_pos d, if_pos d, ck_yes (RF_o Hm), w_see qm, bind_some9]
        dsimp only
        rw [RF_1220 Hm, ck_yes (RO_630 Hm), qm.2.2.1.1, RL_630 Hm, ck_yes (zi_in q5 (by omega)), tK, ck_yes (show isO (pE (pE h 631 K (nI a)) 630 K (pk T a - 48)) 616 12 from RF_o Hm), show zI (pE (pE h 631 K (nI a)) 630 K (pk T a - 48)) 1223 616 = zI h 1223 616 from rfl, q.2.1.2.1, zi_one]
      · rw [if_neg d, if_neg d]
  rw [base]
  by_cases c : pk T a < 48 ∨ 57 < pk T a
  · have n1 : pNm T last a = (false, a, 0) := by
      unfold pNm
      rw [if_pos]
      rcases c with z | z
      · exact Or.inl z
      · refine Or.inr ?_
        rcases hl with ⟨-, e⟩ | ⟨-, e⟩
        · rw [e]; exact z
        · rw [e]; exact Int32.lt_trans (by decide) z
    rw [if_pos c, n1]
    exact ⟨_, rfl, qm, fm, fun z => by cases z⟩
  · rw [if_neg c]
    obtain ⟨x, x1, x2, x3⟩ := pk_dig q.2.2.2.1 c
    obtain ⟨y1, y2⟩ := sub48 x x1 x2
    have al := pk_ge (T := T) (a := a) (c := 48) (by decide) (fun y => c (Or.inl y))
    by_cases d : pk T a - 48 < l
    · have n1 : pNm T last a = (true, a + 1, pk T a - 48) := by
        unfold pNm
        rw [if_neg]
        intro z
        rcases z with z | z
        · exact c (Or.inl z)
        · rcases hl with ⟨e1, e⟩ | ⟨e1, e⟩
          · rw [e] at z; exact c (Or.inr z)
          · rw [e, x3] at z; rw [e1, x3] at d
            exact (y2.mp d) z
      rw [if_pos d, n1]
      have f9 : frx (nmS K) h (pI (pE (pE h 631 K (nI a)) 630 K (pk T a - 48)) 1223 616 (nI (a + 1))) := (fm.trans (frx_pE (Or.inr ⟨Or.inl rfl, rfl⟩))).trans (frx_pI (Or.inl ⟨rfl, rfl⟩))
      refine ⟨_, rfl, q.onP (f9.mono (fun a j z => by unfold nmS at z; unfold rpS; omega)) (by rw [zI_pI, if_pos ⟨rfl, rfl⟩]) al, f9, fun _ => ⟨?_, ?_⟩⟩
      · rw [zE_pI, zE_pE, if_pos ⟨rfl, rfl⟩]
      · rw [zE_pI, zE_pE, if_neg (by omega), zE_pE, if_pos ⟨rfl, rfl⟩]
    · have n1 : pNm T last a = (false, a, 0) := by
        unfold pNm
        rw [if_pos]
        rcases hl with ⟨e1, e⟩ | ⟨e1, e⟩
        · rw [e1, x3] at d
          exact absurd y1 d
        · rw [e1, x3] at d
          rw [e, x3]
          by_cases z : (55 : Int32) < nI x
          · exact Or.inr z
          · exact absurd (y2.mpr z) d
      rw [if_neg d, n1]
      exact ⟨_, rfl, qm, fm, fun z => by cases z⟩
def enS (K a j : Nat) : Prop := (a = 616 ∧ j = 1223) ∨ (a = 624 ∧ j = K)
theorem w_ends (q : rA h T a K) (op : Int32) : ∃ h1, f_X11_ends 616 op h = some (if (pTk T 59 a).1 = true then 1 else 0, h1) ∧ rA h1 T (pTk T 59 a).2 K ∧ frx (enS K) h h1 ∧ zE h1 624 K = op := by
  have H := q.1
  obtain ⟨q4, q5⟩ := q.2.2.1
  have tK : (nI K).toNatClampNeg = K := zi_nat (by omega)
  obtain ⟨qm, -⟩ := q.put (r := 624) (by omega) op
  obtain ⟨m, m1, m2, m3, m4⟩ := w_takes qm (c := 59) (by decide)
  refine ⟨m, ?_, m2, (frx_pE (S := enS K) (Or.inr ⟨rfl, rfl⟩)).trans (m3.mono (fun a j z => Or.inl z)), by rw [m4, zE_pE, if_pos ⟨rfl, rfl⟩]⟩
  have ib := isB_if (pTk T 59 a).1
  unfold f_X11_ends
  rw [ck_yes (RF_o H), RF_1214 H, ck_yes (RO_624 H), q4, RL_624 H, ck_yes (zi_in q5 (by omega)), tK]
  unfold bh
  dsimp only
  rw [m1, bind_some9]
  dsimp only
  rw [ck_yes (of_eq_true ib)]
/-- what a step's reading leaves -/
def sOut (K : Nat) (h : Hp) (T : List Int32) (r : Bool × Nat × StpQ × Nat) (x : Option (Int32 × Hp)) : Prop := ∃ h1, x = some (if r.1 = true ∧ (pTk T 59 r.2.1).1 = true then 1 else 0, h1) ∧ rA h1 T (if r.1 = true then (pTk T 59 r.2.1).2 else r.2.1) K ∧ frx (rpS K) h h1 ∧ okR h1 K ∧ (r.1 = true → (pTk T 59 r.2.1).1 = true → stP h1 K r.2.2.1 r.2.2.2)
theorem sOut.no {m : Hp} {b : Nat} {s : StpQ} {d : Nat} (q : rA m T b K) (f : frx (rpS K) h m) (ok : okR m K) : sOut K h T (false, b, s, d) (some (0, m)) := ⟨m, rfl, q, f, ok, fun z => by cases z⟩
theorem sOut.pre {m : Hp} {r : Bool × Nat × StpQ × Nat} {x : Option (Int32 × Hp)} (s : sOut K m T r x) (f : frx (rpS K) h m) : sOut K h T r x := by
  obtain ⟨h1, s1, s2, s3, s4, s5⟩ := s
  exact ⟨h1, s1, s2, f.trans s3, s4, s5⟩
theorem sOut.fin0 {m : Hp} {b op : Nat} {s : StpQ} {d : Nat} (q : rA m T b K) (hop : op < 15) (R : stR m K op s d) {r : Bool} (hr : r = true) : sOut K m T (r, b, s, d) (f_X11_ends 616 (nI op) m) := by
  obtain ⟨k, k1, k2, k3, k4⟩ := w_ends q (nI op)
  have R1 : stR k K op s d := R.same (fun r h1 h2 => k3.2.2.2 r K (by unfold enS; omega))
  subst hr
  refine ⟨k, ?_, k2, k3.mono (fun a j z => by unfold enS at z; unfold rpS; omega), R1.ok, fun _ _ => ⟨op, hop, k4, R1⟩⟩
  rw [k1]
  cases (pTk T 59 b).1 <;> rfl
theorem sOut.id1 {m : Hp} {r : Bool × Nat × StpQ × Nat} {x : Option (Int32 × Hp)} (s : sOut K m T r x) : sOut K m T r (x.bind (fun q => if q.1 = 0 then some ((0 : Int32), q.2) else some ((1 : Int32), q.2))) := by
  obtain ⟨h1, s1, s2, s3, s4, s5⟩ := s
  refine ⟨h1, ?_, s2, s3, s4, s5⟩
  rw [s1, bind_some9]
  dsimp only
  split <;> rfl
theorem sOut.id2 {m : Hp} {r : Bool × Nat × StpQ × Nat} {x : Option (Int32 × Hp)} (s : sOut K m T r x) : sOut K m T r (x.bind (fun q => ck (isB q.1) (some (q.1, q.2)))) := by
  obtain ⟨h1, s1, s2, s3, s4, s5⟩ := s
  refine ⟨h1, ?_, s2, s3, s4, s5⟩
  rw [s1, bind_some9]
  dsimp only
  split
  · rw [ck_yes (by decide)]
  · rw [ck_yes (by decide)]
end Rs
/-! the reference's steps, one letter behind the other -/
def w_set8 (h : Hp) : Option (Int32 × Hp) := ck (isO h 616 12) ((f_X11_takes 616 ((65 : Int32)) h).bind (fun q10 => if (q10.1) = (0) then (ck (isO (q10.2) 616 12) ((f_X11_takes 616 ((87 : Int32)) (q10.2)).bind (fun q13 => if (q13.1) = (0) then (ck (isO (q13.2) 616 12) ((f_X11_takes 616 ((67 : Int32)) (q13.2)).bind (fun q16 => if (q16.1) = (0) then (ck (isO (q16.2) 616 12) ((f_X11_takes 616 ((74 : Int32)) (q16.2)).bind (fun q19 => if (q19.1) = (0) then (ck (isO (q19.2) 616 12) ((f_X11_value 616 ((0 : Int32)) (q19.2)).bind (fun q22 => if (q22.1) = (0) then (some ((0 : Int32), q22.2)) else (ck (isO (q22.2) 616 12) ((f_X11_takes 616 ((43 : Int32)) (q22.2)).bind (fun q25 => if (q25.1) = (0) then (ck (isO (q25.2) 616 12) ((f_X11_takes 616 ((45 : Int32)) (q25.2)).bind (fun q28 => if (q28.1) = (0) then (ck (isO (q28.2) 616 12) ((f_X11_takes 616 ((42 : Int32)) (q28.2)).bind (fun q31 => if (q31.1) = (0) then (ck (isO (q31.2) 616 12) ((f_X11_takes 616 ((60 : Int32)) (q31.2)).bind (fun q34 => if (q34.1) = (0) then (ck (isO (q34.2) 616 12) ((f_X11_takes 616 ((61 : Int32)) (q34.2)).bind (fun q37 => if (q37.1) = (0) then (f_X11_set_240 ((0 : Int32)) 616 (q37.2)) else (f_X11_set_240 ((5 : Int32)) 616 (q37.2))))) else (f_X11_set_240 ((4 : Int32)) 616 (q34.2))))) else (f_X11_set_240 ((3 : Int32)) 616 (q31.2))))) else (f_X11_set_240 ((2 : Int32)) 616 (q28.2))))) else (f_X11_set_240 ((1 : Int32)) 616 (q25.2)))))))) else (ck (isO (q19.2) 616 12) ((f_X11_bracketed 616 (q19.2)).bind (fun q40 => if (q40.1) = (0) then (some ((0 : Int32), q40.2)) else (ck (isO (q40.2) 616 12) ((f_X11_ends 616 ((9 : Int32)) (q40.2)).bind (fun q43 => if (q43.1) = (0) then (some ((0 : Int32), q43.2)) else (some ((1 : Int32), q43.2))))))))))) else (ck (isO (q16.2) 616 12) ((f_X11_number 616 ((8 : Int32)) (q16.2)).bind (fun q46 => if (q46.1) = (0) then (some ((0 : Int32), q46.2)) else (ck (isO (q46.2) 616 12) ((f_X11_bracketed 616 (q46.2)).bind (fun q49 => if (q49.1) = (0) then (some ((0 : Int32), q49.2)) else (ck (isO (q49.2) 616 12) ((f_X11_ends 616 ((8 : Int32)) (q49.2)).bind (fun q52 => if (q52.1) = (0) then (some ((0 : Int32), q52.2)) else (some ((1 : Int32), q52.2)))))))))))))) else (ck (isO (q13.2) 616 12) ((f_X11_ends 616 ((7 : Int32)) (q13.2)).bind (fun q55 => ck (isB (q55.1)) (some (q55.1, q55.2)))))))) else (ck (isO (q10.2) 616 12) ((f_X11_number 616 ((10 : Int32)) (q10.2)).bind (fun q58 => if (q58.1) = (0) then (some ((0 : Int32), q58.2)) else (ck (isO (q58.2) 616 12) ((f_X11_bracketed 616 (q58.2)).bind (fun q61 => if (q61.1) = (0) then (some ((0 : Int32), q61.2)) else (ck (isO (q61.2) 616 12) ((f_X11_ends 616 ((6 : Int32)) (q61.2)).bind (fun q64 => if (q64.1) = (0) then (some ((0 : Int32), q64.2)) else (some ((1 : Int32), q64.2)))))))))))))
def w_set19 (h : Hp) : Option (Int32 × Hp) := ck (isO h 616 12) ((f_X11_value 616 ((0 : Int32)) h).bind (fun q22 => if (q22.1) = (0) then (some ((0 : Int32), q22.2)) else (ck (isO (q22.2) 616 12) ((f_X11_takes 616 ((43 : Int32)) (q22.2)).bind (fun q25 => if (q25.1) = (0) then (ck (isO (q25.2) 616 12) ((f_X11_takes 616 ((45 : Int32)) (q25.2)).bind (fun q28 => if (q28.1) = (0) then (ck (isO (q28.2) 616 12) ((f_X11_takes 616 ((42 : Int32)) (q28.2)).bind (fun q31 => if (q31.1) = (0) then (ck (isO (q31.2) 616 12) ((f_X11_takes 616 ((60 : Int32)) (q31.2)).bind (fun q34 => if (q34.1) = (0) then (ck (isO (q34.2) 616 12) ((f_X11_takes 616 ((61 : Int32)) (q34.2)).bind (fun q37 => if (q37.1) = (0) then (f_X11_set_240 ((0 : Int32)) 616 (q37.2)) else (f_X11_set_240 ((5 : Int32)) 616 (q37.2))))) else (f_X11_set_240 ((4 : Int32)) 616 (q34.2))))) else (f_X11_set_240 ((3 : Int32)) 616 (q31.2))))) else (f_X11_set_240 ((2 : Int32)) 616 (q28.2))))) else (f_X11_set_240 ((1 : Int32)) 616 (q25.2)))))))
def w_set22 (h : Hp) : Option (Int32 × Hp) := ck (isO h 616 12) ((f_X11_takes 616 ((43 : Int32)) h).bind (fun q25 => if (q25.1) = (0) then (ck (isO (q25.2) 616 12) ((f_X11_takes 616 ((45 : Int32)) (q25.2)).bind (fun q28 => if (q28.1) = (0) then (ck (isO (q28.2) 616 12) ((f_X11_takes 616 ((42 : Int32)) (q28.2)).bind (fun q31 => if (q31.1) = (0) then (ck (isO (q31.2) 616 12) ((f_X11_takes 616 ((60 : Int32)) (q31.2)).bind (fun q34 => if (q34.1) = (0) then (ck (isO (q34.2) 616 12) ((f_X11_takes 616 ((61 : Int32)) (q34.2)).bind (fun q37 => if (q37.1) = (0) then (f_X11_set_240 ((0 : Int32)) 616 (q37.2)) else (f_X11_set_240 ((5 : Int32)) 616 (q37.2))))) else (f_X11_set_240 ((4 : Int32)) 616 (q34.2))))) else (f_X11_set_240 ((3 : Int32)) 616 (q31.2))))) else (f_X11_set_240 ((2 : Int32)) 616 (q28.2))))) else (f_X11_set_240 ((1 : Int32)) 616 (q25.2))))
section Rt
variable {h : Hp} {T : List Int32} {a K : Nat}
def fE (op : Int32) (m : Hp) : Option (Int32 × Hp) := (f_X11_ends 616 op m).bind (fun q => if q.1 = 0 then some ((0 : Int32), q.2) else some ((1 : Int32), q.2))
def fB (op : Int32) (m : Hp) : Option (Int32 × Hp) := (f_X11_bracketed 616 m).bind (fun q => if q.1 = 0 then some ((0 : Int32), q.2) else ck (isO q.2 616 12) (fE op q.2))
theorem w_fE {m : Hp} {b op : Nat} {s : StpQ} {d : Nat} (q : rA m T b K) (hop : op < 15) (R : stR m K op s d) {r : Bool} (hr : r = true) : sOut K m T (r, b, s, d) (fE (nI op) m) := (sOut.fin0 q hop R hr).id1
theorem vS.f {m m1 : Hp} (f : frx (vS false K) m m1) : ∀ r, 624 ≤ r → r ≠ 626 → r ≠ 627 → zE m1 r K = zE m r K := fun r h0 h1 h2 => f.2.2.2 r K (by unfold vS rwB; rw [if_neg (show ¬ false = true from fun z => by cases z)]; omega)
theorem stR.mk {op it : Nat} {s : StpQ} {d : Nat} (ok : okR h K) (hit : it < 8) (e5 : zE h 625 K = nI it) (hs : stSets s.1 → s.2.1 = nI it) (hv : op ≠ 7 → op ≠ 13 → vE h false K s.2.2.2.1) (hw : (op = 1 ∨ op = 2 ∨ op = 3 ∨ op = 4 ∨ op = 5 ∨ op = 11) → vE h true K s.2.2.2.2) (hc : ((op = 0 ∧ s.1 = 43 ∧ s.2.2.2.2 = (-1, 0)) ∨ (op = 1 ∧ s.1 = 43) ∨ (op = 2 ∧ s.1 = 45) ∨ (op = 3 ∧ s.1 = 42) ∨ (op = 4 ∧ s.1 = 60) ∨ (op = 5 ∧ s.1 = 61) ∨ (op = 6 ∧ s.1 = 65 ∧ zE h 630 K = s.2.2.1) ∨ (op = 7 ∧ s.1 = 87) ∨ (op = 8 ∧ s.1 = 67 ∧ zE h 630 K = s.2.2.1) ∨ (op = 9 ∧ s.1 = 74) ∨ (op = 10 ∧ s.1 = 84) ∨ (op = 11 ∧ s.1 = 83) ∨ (op = 12 ∧ s.1 = 73 ∧ zE h 630 K = s.2.2.1 ∧ zE h 631 K = nI d) ∨ (op = 13 ∧ s.1 = 71 ∧ zE h 630 K = s.2.2.1 ∧ zE h 631 K = nI d) ∨ (op = 14 ∧ s.1 = 69))) : stR h K op s d :=
  ⟨⟨it, hit, e5, hs⟩, ok.2.1, ok.2.2, fun h1 h2 => (hv h1 h2).ok.2, fun z => (hw z).ok.2, hc⟩
theorem w_brE {m : Hp} {op : Nat} {s : StpQ} {d : Nat} (q : rA m T a K) (ok : okR m K) (hop : op < 15) (fin : ∀ m', okR m' K → (∀ r, 624 ≤ r → r ≠ 626 → r ≠ 627 → zE m' r K = zE m r K) → vE m' false K (pBr T a).2.2 → stR m' K op s d) : sOut K m T ((pBr T a).1, (pBr T a).2.1, s, d) (fB (nI op) m) := by
  obtain ⟨k, k1, k2, k3, k4, k5⟩ := w_brk q ok
  unfold fB
  rw [k1, bind_some9]
  dsimp only
  have f3 : frx (rpS K) m k := k3.mono (fun a j z => z.rp)
  cases c : (pBr T a).1 with
  | false =>
    rw [if_neg (fun z => Bool.noConfusion z), if_pos rfl]
    exact sOut.no k2 f3 k4
  | true =>
    rw [if_pos rfl, if_neg (by decide), ck_yes (RF_o k2.1)]
    exact (w_fE k2 hop (fin k k4 (vS.f k3) (k5 c)) rfl).pre f3
theorem nmS.rp {K a j : Nat} (z : nmS K a j) : rpS K a j := by unfold nmS at z; unfold rpS; omega
theorem nmS.ok {m m1 : Hp} (ok : okR m K) (f : frx (nmS K) m m1) : okR m1 K := ok.same (fun r h1 h2 => f.2.2.2 r K (by unfold nmS; omega))
theorem w_AC {m : Hp} {c last l : Int32} {op it : Nat} (q : rA m T (a + 1) K) (ok : okR m K) (hl : (l = 10 ∧ last = 57) ∨ (l = 8 ∧ last = 55)) (hop : (op = 6 ∧ c = 65) ∨ (op = 8 ∧ c = 67)) (hit : it < 8) (e5 : zE m 625 K = nI it) : sOut K m T (pAC T a (nI it) c last) ((f_X11_number 616 l m).bind (fun q => if q.1 = 0 then some ((0 : Int32), q.2) else ck (isO q.2 616 12) (fB (nI op) q.2))) := by
  obtain ⟨k, k1, k2, k3, k4⟩ := w_num q hl
  unfold pAC
  rw [k1, bind_some9]
  dsimp only
  have f3 : frx (rpS K) m k := k3.mono (fun a j z => z.rp)
  have okk := nmS.ok ok k3
  cases c1 : (pNm T last (a + 1)).1 with
  | false =>
    rw [if_pos rfl, if_neg (fun z => Bool.noConfusion z), if_pos rfl]
    exact sOut.no k2 f3 okk
  | true =>
    rw [if_neg (show ¬ true = false from fun z => by cases z), if_pos rfl, if_neg (by decide), ck_yes (RF_o k2.1)]
    refine (w_brE k2 okk (by omega) (fun m' o' e' v' => stR.mk o' hit ((e' 625 (by omega) (by omega) (by omega)).trans ((k3.2.2.2 625 K (by unfold nmS; omega)).trans e5)) (fun _ => rfl) (fun _ _ => v') (fun z => by omega) ?_)).pre f3
    have e6 : zE m' 630 K = (pNm T last (a + 1)).2.2 := (e' 630 (by omega) (by omega) (by omega)).trans (k4 c1).1
    rcases hop with ⟨h1, h2⟩ | ⟨h1, h2⟩
    · exact Or.inr (Or.inr (Or.inr (Or.inr (Or.inr (Or.inr (Or.inl ⟨h1, h2, e6⟩))))))
    · exact Or.inr (Or.inr (Or.inr (Or.inr (Or.inr (Or.inr (Or.inr (Or.inr (Or.inl ⟨h1, h2, e6⟩))))))))
/-- the second value -/
theorem w_240 {k : Hp} {op it : Nat} {c : Int32} {x : Int32 × Int32} (q : rA k T a K) (ok : okR k K) (hop : (op = 1 ∧ c = 43) ∨ (op = 2 ∧ c = 45) ∨ (op = 3 ∧ c = 42) ∨ (op = 4 ∧ c = 60) ∨ (op = 5 ∧ c = 61)) (hit : it < 8) (e5 : zE k 625 K = nI it) (vx : vE k false K x) : sOut K k T ((pVl T a).1, (pVl T a).2.1, (c, nI it, 0, x, (pVl T a).2.2), 0) (f_X11_set_240 (nI op) 616 k) := by
  obtain ⟨g, g1, g2, g3, g4, g5⟩ := w_rdV q true
  have f3 : frx (rpS K) k g := g3.mono (fun a j z => z.rp)
  have n0 : ¬ nI op = (0 : Int32) := fun z => by
    have z : nI op = nI 0 := z
    rw [zi_eq (by omega) (by omega)] at z
    omega
  unfold f_X11_set_240
  rw [if_neg n0, ck_yes (RF_o q.1), show f_X11_value 616 1 k = _ from g1, bind_some9]
  dsimp only
  cases c1 : (pVl T a).1 with
  | false =>
    rw [if_neg (fun z => Bool.noConfusion z), if_pos rfl]
    exact sOut.no g2 f3 (ok.same (fun r _ _ => by rw [g5 c1]))
  | true =>
    rw [if_pos rfl, if_neg (by decide), ck_yes (RF_o g2.1)]
    have e : ∀ r, 624 ≤ r → r ≠ 628 → r ≠ 629 → zE g r K = zE k r K := fun r h0 h1 h2 => g3.2.2.2 r K (by unfold vS rwB; rw [if_pos rfl]; omega)
    refine (w_fE g2 (by omega) (stR.mk (it := it) (ok.V g3 (g4 c1)) hit ((e 625 (by omega) (by omega) (by omega)).trans e5) (fun _ => rfl) (fun _ _ => vx.same (fun r hr => e r (by unfold rwB at hr; rw [if_neg (show ¬ false = true from fun z => by cases z)] at hr; omega) (by unfold rwB at hr; rw [if_neg (show ¬ false = true from fun z => by cases z)] at hr; omega) (by unfold rwB at hr; rw [if_neg (show ¬ false = true from fun z => by cases z)] at hr; omega))) (fun _ => g4 c1) ?_) rfl).pre f3
    rcases hop with ⟨h1, h2⟩ | ⟨h1, h2⟩ | ⟨h1, h2⟩ | ⟨h1, h2⟩ | ⟨h1, h2⟩
    · exact Or.inr (Or.inl ⟨h1, h2⟩)
    · exact Or.inr (Or.inr (Or.inl ⟨h1, h2⟩))
    · exact Or.inr (Or.inr (Or.inr (Or.inl ⟨h1, h2⟩)))
    · exact Or.inr (Or.inr (Or.inr (Or.inr (Or.inl ⟨h1, h2⟩))))
    · exact Or.inr (Or.inr (Or.inr (Or.inr (Or.inr (Or.inl ⟨h1, h2⟩)))))
/-- a value, or two with a sign between -/
theorem w_set22_ok {k : Hp} {it : Nat} {x : Int32 × Int32} (q : rA k T a K) (ok : okR k K) (hit : it < 8) (e5 : zE k 625 K = nI it) (vx : vE k false K x) : sOut K k T (if pk T a = 43 ∨ pk T a = 45 ∨ pk T a = 42 ∨ pk T a = 60 ∨ pk T a = 61 then ((pVl T (a + 1)).1, (pVl T (a + 1)).2.1, (pk T a, nI it, 0, x, (pVl T (a + 1)).2.2), 0) else (true, a, (43, nI it, 0, x, (-1, 0)), 0)) (w_set22 k) := by
  have H := q.1
  have go : ∀ {op : Nat} {c : Int32}, pk T a = c → c ≠ 0 → ((op = 1 ∧ c = 43) ∨ (op = 2 ∧ c = 45) ∨ (op = 3 ∧ c = 42) ∨ (op = 4 ∧ c = 60) ∨ (op = 5 ∧ c = 61)) → sOut K k T ((pVl T (a + 1)).1, (pVl T (a + 1)).2.1, (c, nI it, 0, x, (pVl T (a + 1)).2.2), 0) (f_X11_set_240 (nI op) 616 (pI k 1223 616 (nI (a + 1)))) := fun hc c0 hop =>
    (w_240 (q.mv (pk_lq c0 hc)) ok hop hit e5 vx).pre (frx_pI (Or.inl ⟨rfl, rfl⟩))
  unfold w_set22
  rw [ck_yes (RF_o H)]
  by_cases c1 : pk T a = 43
  · rw [if_pos (Or.inl c1), w_tkY q c1, bind_some9, c1]
    exact go (op := 1) c1 (by decide) (Or.inl ⟨rfl, rfl⟩)
  rw [w_tkN q c1, bind_some9]
  dsimp only
  rw [if_pos rfl, ck_yes (RF_o H)]
  by_cases c2 : pk T a = 45
  · rw [if_pos (Or.inr (Or.inl c2)), w_tkY q c2, bind_some9, c2]
    exact go (op := 2) c2 (by decide) (Or.inr (Or.inl ⟨rfl, rfl⟩))
  rw [w_tkN q c2, bind_some9]
  dsimp only
  rw [if_pos rfl, ck_yes (RF_o H)]
  by_cases c3 : pk T a = 42
  · rw [if_pos (Or.inr (Or.inr (Or.inl c3))), w_tkY q c3, bind_some9, c3]
    exact go (op := 3) c3 (by decide) (Or.inr (Or.inr (Or.inl ⟨rfl, rfl⟩)))
  rw [w_tkN q c3, bind_some9]
  dsimp only
  rw [if_pos rfl, ck_yes (RF_o H)]
  by_cases c4 : pk T a = 60
  · rw [if_pos (Or.inr (Or.inr (Or.inr (Or.inl c4)))), w_tkY q c4, bind_some9, c4]
    exact go (op := 4) c4 (by decide) (Or.inr (Or.inr (Or.inr (Or.inl ⟨rfl, rfl⟩))))
  rw [w_tkN q c4, bind_some9]
  dsimp only
  rw [if_pos rfl, ck_yes (RF_o H)]
  by_cases c5 : pk T a = 61
  · rw [if_pos (Or.inr (Or.inr (Or.inr (Or.inr c5)))), w_tkY q c5, bind_some9, c5]
    exact go (op := 5) c5 (by decide) (Or.inr (Or.inr (Or.inr (Or.inr ⟨rfl, rfl⟩))))
  rw [w_tkN q c5, bind_some9]
  dsimp only
  rw [if_pos rfl, if_neg (fun z => by rcases z with z | z | z | z | z; exact c1 z; exact c2 z; exact c3 z; exact c4 z; exact c5 z)]
  unfold f_X11_set_240
  rw [if_pos rfl, ck_yes (RF_o H)]
  exact w_fE (op := 0) q (by omega) (stR.mk ok hit e5 (fun _ => rfl) (fun _ _ => vx) (fun z => by omega) (Or.inl ⟨rfl, rfl, rfl⟩)) rfl
theorem w_rk {k : Hp} {it : Nat} (q : rA k T a K) (ok : okR k K) (hit : it < 8) (e5 : zE k 625 K = nI it) : sOut K k T (pRk T a (nI it)) (w_set19 k) := by
  obtain ⟨g, g1, g2, g3, g4, g5⟩ := w_rdV q false
  have f3 : frx (rpS K) k g := g3.mono (fun a j z => z.rp)
  unfold w_set19 pRk
  rw [ck_yes (RF_o q.1), show f_X11_value 616 0 k = _ from g1, bind_some9]
  dsimp only
  cases c1 : (pVl T a).1 with
  | false =>
    rw [if_pos rfl, if_neg (fun z => Bool.noConfusion z), if_pos rfl]
    exact sOut.no g2 f3 (ok.same (fun r _ _ => by rw [g5 c1]))
  | true =>
    rw [if_neg (show ¬ true = false from fun z => by cases z), if_pos rfl, if_neg (show ¬ (1 : Int32) = 0 by decide)]
    exact (w_set22_ok g2 (ok.V g3 (g4 c1)) hit ((vS.f g3 625 (by omega) (by omega) (by omega)).trans e5) (g4 c1)).pre f3
theorem w_set8_ok {k : Hp} {it : Nat} (q : rA k T a K) (ok : okR k K) (hit : it < 8) (e5 : zE k 625 K = nI it) : sOut K k T (pRs T a (nI it)) (w_set8 k) := by
  have H := q.1
  have mvf : frx (rpS K) k (pI k 1223 616 (nI (a + 1))) := frx_pI (Or.inl ⟨rfl, rfl⟩)
  unfold pRs w_set8
  rw [ck_yes (RF_o H)]
  by_cases c1 : pk T a = 65
  · have qm := q.mv (pk_lq (by decide) c1)
    rw [if_pos c1, w_tkY q c1, bind_some9]
    dsimp only
    rw [if_neg (by decide), ck_yes (RF_o qm.1)]
    exact (w_AC (op := 6) qm ok (Or.inl ⟨rfl, rfl⟩) (Or.inl ⟨rfl, rfl⟩) hit e5).pre mvf
  rw [if_neg c1, w_tkN q c1, bind_some9]
  dsimp only
  rw [if_pos rfl, ck_yes (RF_o H)]
  by_cases c4 : pk T a = 87
  · have qm := q.mv (pk_lq (by decide) c4)
    rw [if_neg (show ¬ pk T a = 67 by rw [c4]; decide), if_neg (show ¬ pk T a = 74 by rw [c4]; decide), if_pos c4, w_tkY q c4, bind_some9]
    dsimp only
    rw [if_neg (by decide), ck_yes (RF_o qm.1)]
    exact ((sOut.fin0 (op := 7) qm (by omega) (stR.mk (it := it) ok hit e5 (fun _ => rfl) (fun z => absurd rfl z) (fun z => by omega) (Or.inr (Or.inr (Or.inr (Or.inr (Or.inr (Or.inr (Or.inr (Or.inl ⟨rfl, rfl⟩))))))))) rfl).id2).pre mvf
  rw [w_tkN q c4, bind_some9]
  dsimp only
  rw [if_pos rfl, ck_yes (RF_o H)]
  by_cases c2 : pk T a = 67
  · have qm := q.mv (pk_lq (by decide) c2)
    rw [if_pos c2, w_tkY q c2, bind_some9]
    dsimp only
    rw [if_neg (by decide), ck_yes (RF_o qm.1)]
    exact (w_AC (op := 8) qm ok (Or.inr ⟨rfl, rfl⟩) (Or.inr ⟨rfl, rfl⟩) hit e5).pre mvf
  rw [if_neg c2, w_tkN q c2, bind_some9]
  dsimp only
  rw [if_pos rfl, ck_yes (RF_o H)]
  by_cases c3 : pk T a = 74
  · have qm := q.mv (pk_lq (by decide) c3)
    rw [if_pos c3, w_tkY q c3, bind_some9]
    dsimp only
    rw [if_neg (by decide), ck_yes (RF_o qm.1)]
    exact (w_brE (op := 9) (s := (74, nI it, 0, (pBr T (a + 1)).2.2, (-1, 0))) (d := 0) qm ok (by omega) (fun m' o' e' v' => stR.mk o' hit ((e' 625 (by omega) (by omega) (by omega)).trans e5) (fun _ => rfl) (fun _ _ => v') (fun z => by omega) (Or.inr (Or.inr (Or.inr (Or.inr (Or.inr (Or.inr (Or.inr (Or.inr (Or.inr (Or.inl ⟨rfl, rfl⟩)))))))))))).pre mvf
  rw [if_neg c3, if_neg c4, w_tkN q c3, bind_some9]
  dsimp only
  rw [if_pos rfl]
  exact w_rk q ok hit e5
end Rt
theorem ns83 : ¬ stSets 83 := by unfold stSets; decide
theorem ns73 : ¬ stSets 73 := by unfold stSets; decide
theorem ns71 : ¬ stSets 71 := by unfold stSets; decide
theorem ns84 : ¬ stSets 84 := by unfold stSets; decide
theorem ns69 : ¬ stSets 69 := by unfold stSets; decide
section Ru
variable {h : Hp} {T : List Int32} {a K : Nat}
/-- a letter is set -/
theorem w_set (q : rA h T a K) (ok : okR h K) (c : ¬ (pk T a < 97 ∨ 104 < pk T a)) : sOut K h T (if (pTk T 61 (a + 1)).1 = false then (false, (pTk T 61 (a + 1)).2, q00, 0) else pRs T (pTk T 61 (a + 1)).2 (pk T a - 97)) (f_X11_set 616 h) := by
  have H := q.1
  have al := pk_ge (T := T) (a := a) (c := 97) (by decide) (fun y => c (Or.inl y))
  obtain ⟨it, i1, i2⟩ := pk_local q.2.2.2.1 c
  obtain ⟨q4, q5⟩ := q.2.2.1
  have tK : (nI K).toNatClampNeg = K := zi_nat (by omega)
  obtain ⟨qm, fm⟩ := q.put (r := 625) (by omega) (pk T a - 97)
  have qn := qm.mv al
  have fn : frx (rpS K) h (pI (pE h 625 K (pk T a - 97)) 1223 616 (nI (a + 1))) := fm.trans (frx_pI (Or.inl ⟨rfl, rfl⟩))
  have e5 : zE (pI (pE h 625 K (pk T a - 97)) 1223 616 (nI (a + 1))) 625 K = nI it := by rw [zE_pI, zE_pE, if_pos ⟨rfl, rfl⟩, i2]
  have okn : okR (pI (pE h 625 K (pk T a - 97)) 1223 616 (nI (a + 1))) K := by
    obtain ⟨-, v1, v2⟩ := ok
    refine ⟨⟨it, i1, e5⟩, ?_, ?_⟩
    · rw [zE_pI, zE_pE, if_neg (by omega), zE_pI, zE_pE, if_neg (by omega)]; exact v1
    · rw [zE_pI, zE_pE, if_neg (by omega), zE_pI, zE_pE, if_neg (by omega)]; exact v2
  have base : f_X11_set 616 h = (f_X11_takes 616 61 (pI (pE h 625 K (pk T a - 97)) 1223 616 (nI (a + 1)))).bind (fun q8 => if q8.1 = 0 then some ((0 : Int32), q8.2) else w_set8 q8.2) := by
    unfold f_X11_set
    rw [ck_yes (RF_o H), w_see q, bind_some9]
    dsimp only
    rw [RF_1215 H, ck_yes (RO_625 H), q4, RL_625 H, ck_yes (zi_in q5 (by omega)), tK]
    unfold bh
    dsimp only
    rw [ck_yes (show isO (pE h 625 K (pk T a - 97)) 616 12 from RF_o H), show zI (pE h 625 K (pk T a - 97)) 1223 616 = zI h 1223 616 from rfl, q.2.1.2.1, zi_one]
    rfl
  generalize pI (pE h 625 K (pk T a - 97)) 1223 616 (nI (a + 1)) = n at *
  obtain ⟨m, m1, m2, m3, m4⟩ := w_takes qn (c := 61) (by decide)
  have f3 : frx (rpS K) h m := fn.trans (m3.mono (fun a j z => Or.inl z))
  have okm : okR m K := okn.same (fun r _ _ => by rw [m4])
  rw [base, m1, bind_some9, i2]
  dsimp only
  cases c1 : (pTk T 61 (a + 1)).1 with
  | false =>
    rw [if_pos rfl, if_neg (fun z => Bool.noConfusion z), if_pos rfl]
    exact sOut.no m2 f3 okm
  | true =>
    rw [if_neg (show ¬ true = false from fun z => by cases z), if_pos rfl, if_neg (show ¬ (1 : Int32) = 0 by decide)]
    exact (w_set8_ok m2 okm i1 (by rw [m4]; exact e5)).pre f3
def fTw (m : Hp) : Option (Int32 × Hp) := (f_X11_takes 616 40 m).bind (fun q40 => if q40.1 = 0 then some ((0 : Int32), q40.2) else ck (isO q40.2 616 12) ((f_X11_value 616 0 q40.2).bind (fun q43 => if q43.1 = 0 then some ((0 : Int32), q43.2) else ck (isO q43.2 616 12) ((f_X11_takes 616 44 q43.2).bind (fun q46 => if q46.1 = 0 then some ((0 : Int32), q46.2) else ck (isO q46.2 616 12) ((f_X11_value 616 1 q46.2).bind (fun q49 => if q49.1 = 0 then some ((0 : Int32), q49.2) else ck (isO q49.2 616 12) ((f_X11_takes 616 41 q49.2).bind (fun q52 => if q52.1 = 0 then some ((0 : Int32), q52.2) else ck (isO q52.2 616 12) (fE 11 q52.2))))))))))
theorem w_tw (q : rA h T a K) (ok : okR h K) : sOut K h T (pTw T a) (fTw h) := by
  obtain ⟨⟨it, i1, i2⟩, -⟩ := id ok
  obtain ⟨m, m1, m2, m3, m4⟩ := w_takes q (c := 40) (by decide)
  have fm : frx (rpS K) h m := m3.mono (fun a j z => Or.inl z)
  have okm : okR m K := ok.same (fun r _ _ => by rw [m4])
  unfold pTw fTw
  rw [m1, bind_some9]
  dsimp only
  cases c1 : (pTk T 40 a).1 with
  | false =>
    rw [if_pos rfl, if_neg (fun z => Bool.noConfusion z), if_pos rfl]
    exact sOut.no m2 fm okm
  | true =>
    rw [if_neg (show ¬ true = false from fun z => by cases z), if_pos rfl, if_neg (show ¬ (1 : Int32) = 0 by decide), ck_yes (RF_o m2.1)]
    obtain ⟨k, k1, k2, k3, k4, k5⟩ := w_rdV m2 false
    have fk : frx (rpS K) h k := fm.trans (k3.mono (fun a j z => z.rp))
    rw [show f_X11_value 616 0 m = _ from k1, bind_some9]
    dsimp only
    cases c2 : (pVl T (pTk T 40 a).2).1 with
    | false =>
      rw [if_pos rfl, if_neg (fun z => Bool.noConfusion z), if_pos rfl]
      exact sOut.no k2 fk (okm.same (fun r _ _ => by rw [k5 c2]))
    | true =>
      rw [if_neg (show ¬ true = false from fun z => by cases z), if_pos rfl, if_neg (show ¬ (1 : Int32) = 0 by decide), ck_yes (RF_o k2.1)]
      have okk := okm.V k3 (k4 c2)
      obtain ⟨g, g1, g2, g3, g4⟩ := w_takes k2 (c := 44) (by decide)
      have fg : frx (rpS K) h g := fk.trans (g3.mono (fun a j z => Or.inl z))
      have okg : okR g K := okk.same (fun r _ _ => by rw [g4])
      rw [g1, bind_some9]
      dsimp only
      generalize hp : (pVl T (pTk T 40 a).2).2.1 = p at *
      cases c3 : (pTk T 44 p).1 with
      | false =>
        rw [if_pos rfl, if_neg (fun z => Bool.noConfusion z), if_pos rfl]
        exact sOut.no g2 fg okg
      | true =>
        rw [if_neg (show ¬ true = false from fun z => by cases z), if_pos rfl, if_neg (show ¬ (1 : Int32) = 0 by decide), ck_yes (RF_o g2.1)]
        obtain ⟨l, l1, l2, l3, l4, l5⟩ := w_rdV g2 true
        have fl : frx (rpS K) h l := fg.trans (l3.mono (fun a j z => z.rp))
        rw [show f_X11_value 616 1 g = _ from l1, bind_some9]
        dsimp only
        generalize hr : (pTk T 44 p).2 = r at *
        cases c4 : (pVl T r).1 with
        | false =>
          rw [if_pos rfl, if_neg (fun z => Bool.noConfusion z), if_pos rfl]
          exact sOut.no l2 fl (okg.same (fun r _ _ => by rw [l5 c4]))
        | true =>
          rw [if_neg (show ¬ true = false from fun z => by cases z), if_pos rfl, if_neg (show ¬ (1 : Int32) = 0 by decide), ck_yes (RF_o l2.1)]
          have okl := okg.V l3 (l4 c4)
          obtain ⟨n, n1, n2, n3, n4⟩ := w_takes l2 (c := 41) (by decide)
          have fn : frx (rpS K) h n := fl.trans (n3.mono (fun a j z => Or.inl z))
          have okn : okR n K := okl.same (fun r _ _ => by rw [n4])
          rw [n1, bind_some9]
          dsimp only
          cases c5 : (pTk T 41 (pVl T r).2.1).1 with
          | false =>
            rw [if_neg (fun z => Bool.noConfusion z), if_pos rfl]
            exact sOut.no n2 fn okn
          | true =>
            rw [if_pos rfl, if_neg (show ¬ (1 : Int32) = 0 by decide), ck_yes (RF_o n2.1)]
            have e : ∀ r, 624 ≤ r → r ≠ 628 → r ≠ 629 → zE l r K = zE g r K := fun r h0 h1 h2 => l3.2.2.2 r K (by unfold vS rwB; rw [if_pos rfl]; omega)
            have v1 : vE n false K (pVl T (pTk T 40 a).2).2.2 := (k4 c2).same (fun r hr => by
              have hr : r = 626 ∨ r = 627 := hr
              rw [n4, e r (by omega) (by omega) (by omega), g4])
            have v2 : vE n true K (pVl T r).2.2 := (l4 c4).same (fun r _ => by rw [n4])
            obtain ⟨⟨jt, j1, j2⟩, -⟩ := id okn
            exact (w_fE (op := 11) n2 (by omega) (stR.mk okn j1 j2 (fun z => absurd z ns83) (fun _ _ => v1) (fun _ => v2) (Or.inr (Or.inr (Or.inr (Or.inr (Or.inr (Or.inr (Or.inr (Or.inr (Or.inr (Or.inr (Or.inr (Or.inl ⟨rfl, rfl⟩))))))))))))) rfl).pre fn
/-- a step -/
theorem w_stp (q : rA h T a K) (ok : okR h K) : sOut K h T (pSt T a) (f_X11_step 616 h) := by
  have H := q.1
  have mvf : frx (rpS K) h (pI h 1223 616 (nI (a + 1))) := frx_pI (Or.inl ⟨rfl, rfl⟩)
  obtain ⟨⟨it, i1, i2⟩, -⟩ := id ok
  unfold pSt f_X11_step
  rw [ck_yes (RF_o H), w_let q, bind_some9]
  dsimp only
  by_cases c : pk T a < 97 ∨ 104 < pk T a
  · rw [if_pos c, if_pos c, if_pos rfl, ck_yes (RF_o H)]
    by_cases c1 : pk T a = 84
    · have qm := q.mv (pk_lq (by decide) c1)
      rw [if_neg (show ¬ pk T a = 71 by rw [c1]; decide), if_neg (show ¬ pk T a = 73 by rw [c1]; decide), if_neg (show ¬ pk T a = 83 by rw [c1]; decide), if_pos (Or.inl c1), w_tkY q c1, bind_some9]
      dsimp only
      rw [if_neg (show ¬ (1 : Int32) = 0 by decide), ck_yes (RF_o qm.1)]
      exact (w_brE (op := 10) (s := (pk T a, 0, 0, (pBr T (a + 1)).2.2, (-1, 0))) (d := 0) qm ok (by omega) (fun m' o' e' v' => stR.mk o' i1 ((e' 625 (by omega) (by omega) (by omega)).trans i2) (fun z => by have z : stSets (pk T a) := z; rw [c1] at z; exact absurd z ns84) (fun _ _ => v') (fun z => by omega) (Or.inr (Or.inr (Or.inr (Or.inr (Or.inr (Or.inr (Or.inr (Or.inr (Or.inr (Or.inr (Or.inl ⟨rfl, c1⟩))))))))))))).pre mvf
    rw [w_tkN q c1, bind_some9]
    dsimp only
    rw [if_pos rfl, ck_yes (RF_o H)]
    by_cases c2 : pk T a = 83
    · have qm := q.mv (pk_lq (by decide) c2)
      rw [if_neg (show ¬ pk T a = 71 by rw [c2]; decide), if_neg (show ¬ pk T a = 73 by rw [c2]; decide), if_pos c2, w_tkY q c2, bind_some9]
      dsimp only
      rw [if_neg (show ¬ (1 : Int32) = 0 by decide), ck_yes (RF_o qm.1)]
      exact (w_tw qm ok).pre mvf
    rw [if_neg c2, w_tkN q c2, bind_some9]
    dsimp only
    rw [if_pos rfl, ck_yes (RF_o H)]
    by_cases c3 : pk T a = 73
    · have qm := q.mv (pk_lq (by decide) c3)
      rw [if_neg (show ¬ pk T a = 71 by rw [c3]; decide), if_pos c3, w_tkY q c3, bind_some9]
      dsimp only
      rw [if_neg (show ¬ (1 : Int32) = 0 by decide), ck_yes (RF_o qm.1)]
      obtain ⟨k, k1, k2, k3, k4, k5⟩ := w_brk qm ok
      have fk : frx (rpS K) h k := mvf.trans (k3.mono (fun a j z => z.rp))
      rw [k1, bind_some9]
      dsimp only
      cases c4 : (pBr T (a + 1)).1 with
      | false =>
        rw [if_pos rfl, if_neg (fun z => Bool.noConfusion z), if_pos rfl]
        exact sOut.no k2 fk k4
      | true =>
        rw [if_neg (show ¬ true = false from fun z => by cases z), if_pos rfl, if_neg (show ¬ (1 : Int32) = 0 by decide), ck_yes (RF_o k2.1)]
        obtain ⟨g, g1, g2, g3, g4⟩ := w_num k2 (l := 10) (last := 57) (Or.inl ⟨rfl, rfl⟩)
        have fg : frx (rpS K) h g := fk.trans (g3.mono (fun a j z => z.rp))
        have okg := nmS.ok k4 g3
        rw [g1, bind_some9]
        dsimp only
        cases c5 : (pNm T 57 (pBr T (a + 1)).2.1).1 with
        | false =>
          rw [if_neg (fun z => Bool.noConfusion z), if_pos rfl]
          exact sOut.no g2 fg okg
        | true =>
          rw [if_pos rfl, if_neg (show ¬ (1 : Int32) = 0 by decide), ck_yes (RF_o g2.1)]
          obtain ⟨⟨jt, j1, j2⟩, -⟩ := id okg
          have v1 : vE g false K (pBr T (a + 1)).2.2 := (k5 c4).same (fun r hr => by
            have hr : r = 626 ∨ r = 627 := hr
            exact g3.2.2.2 r K (by unfold nmS; omega))
          exact (w_fE (op := 12) g2 (by omega) (stR.mk okg j1 j2 (fun z => absurd z ns73) (fun _ _ => v1) (fun z => by omega) (Or.inr (Or.inr (Or.inr (Or.inr (Or.inr (Or.inr (Or.inr (Or.inr (Or.inr (Or.inr (Or.inr (Or.inr (Or.inl ⟨rfl, rfl, (g4 c5).1, (g4 c5).2⟩)))))))))))))) rfl).pre fg
    rw [if_neg c3, w_tkN q c3, bind_some9]
    dsimp only
    rw [if_pos rfl, ck_yes (RF_o H)]
    by_cases c4 : pk T a = 71
    · have qm := q.mv (pk_lq (by decide) c4)
      rw [if_pos c4, w_tkY q c4, bind_some9]
      dsimp only
      rw [if_neg (show ¬ (1 : Int32) = 0 by decide), ck_yes (RF_o qm.1)]
      obtain ⟨g, g1, g2, g3, g4⟩ := w_num qm (l := 10) (last := 57) (Or.inl ⟨rfl, rfl⟩)
      have fg : frx (rpS K) h g := mvf.trans (g3.mono (fun a j z => z.rp))
      have okg := nmS.ok (K := K) (m := pI h 1223 616 (nI (a + 1))) ok g3
      rw [g1, bind_some9]
      dsimp only
      cases c5 : (pNm T 57 (a + 1)).1 with
      | false =>
        rw [if_neg (fun z => Bool.noConfusion z), if_pos rfl]
        exact sOut.no g2 fg okg
      | true =>
        rw [if_pos rfl, if_neg (show ¬ (1 : Int32) = 0 by decide), ck_yes (RF_o g2.1)]
        obtain ⟨⟨jt, j1, j2⟩, -⟩ := id okg
        exact (w_fE (op := 13) g2 (by omega) (stR.mk okg j1 j2 (fun z => absurd z ns71) (fun _ z => absurd rfl z) (fun z => by omega) (Or.inr (Or.inr (Or.inr (Or.inr (Or.inr (Or.inr (Or.inr (Or.inr (Or.inr (Or.inr (Or.inr (Or.inr (Or.inr (Or.inl ⟨rfl, rfl, (g4 c5).1, (g4 c5).2⟩))))))))))))))) rfl).pre fg
    rw [if_neg c4, w_tkN q c4, bind_some9]
    dsimp only
    rw [if_pos rfl, ck_yes (RF_o H)]
    by_cases c5 : pk T a = 69
    · have qm := q.mv (pk_lq (by decide) c5)
      rw [if_pos (Or.inr c5), w_tkY q c5, bind_some9]
      dsimp only
      rw [if_neg (show ¬ (1 : Int32) = 0 by decide), ck_yes (RF_o qm.1)]
      exact (w_brE (op := 14) (s := (pk T a, 0, 0, (pBr T (a + 1)).2.2, (-1, 0))) (d := 0) qm ok (by omega) (fun m' o' e' v' => stR.mk o' i1 ((e' 625 (by omega) (by omega) (by omega)).trans i2) (fun z => by have z : stSets (pk T a) := z; rw [c5] at z; exact absurd z ns69) (fun _ _ => v') (fun z => by omega) (Or.inr (Or.inr (Or.inr (Or.inr (Or.inr (Or.inr (Or.inr (Or.inr (Or.inr (Or.inr (Or.inr (Or.inr (Or.inr (Or.inr (⟨rfl, c5⟩))))))))))))))))).pre mvf
    rw [if_neg (fun z => z.elim c1 c5), w_tkN q c5, bind_some9]
    dsimp only
    rw [if_pos rfl]
    exact sOut.no q (frx.rf h) ok
  · rw [if_neg c, if_neg c, if_neg (show ¬ (1 : Int32) = 0 by decide), ck_yes (RF_o H)]
    exact (w_set q ok c).id2
end Ru
/-! the reference reads all steps -/
def pgF (K0 a j : Nat) : Prop := (a = 616 ∧ (j = 1223 ∨ j = 1213)) ∨ (624 ≤ a ∧ a ≤ 631 ∧ K0 ≤ j) ∨ a = 632
def lbR (h : Hp) (L : Nat → Int32) : Prop := ∀ d, d < 10 → zE h 632 d = L d
def lOut (K0 : Nat) (h : Hp) (T : List Int32) (r : Bool × Nat × List (StpQ × Nat) × (Nat → Int32)) (x : Option (Int32 × Hp)) : Prop := ∃ h1, frx (pgF K0) h h1 ∧ (∀ K, okR h1 K) ∧ (r.1 = false → x = some (nI r.2.1, h1) ∧ r.2.1 ≤ T.length) ∧ (r.1 = true → x = f_X11_read_146 fz 616 (nI K0) h1 ∧ rA h1 T r.2.1 (K0 + r.2.2.1.length) ∧ lbR h1 r.2.2.2 ∧ ∀ (i : Nat) (s : StpQ × Nat), r.2.2.1[i]? = some s → stP h1 (K0 + i) s.1 s.2)
theorem rpS.pg {K K0 a j : Nat} (hK : K0 ≤ K) (z : rpS K a j) : pgF K0 a j := by unfold rpS at z; unfold pgF; omega
section Rl
variable {T : List Int32} {K0 : Nat}
theorem lOut.pre {h m : Hp} {r : Bool × Nat × List (StpQ × Nat) × (Nat → Int32)} {x : Option (Int32 × Hp)} (s : lOut K0 m T r x) (f : frx (pgF K0) h m) : lOut K0 h T r x := by
  obtain ⟨h1, s1, s2, s3, s4⟩ := s
  exact ⟨h1, f.trans s1, s2, s3, s4⟩
theorem lOut.no {h m : Hp} {a : Nat} {Q : List (StpQ × Nat)} {L : Nat → Int32} (f : frx (pgF K0) h m) (ok : ∀ K, okR m K) (e : zI m 1223 616 = nI a) (ha : a ≤ T.length) : lOut K0 h T (false, a, Q, L) (some (zI m 1223 616, m)) := ⟨m, f, ok, fun _ => ⟨by rw [e], ha⟩, fun z => by cases z⟩
theorem rA.all {h h1 : Hp} {K : Nat} (ok : ∀ K, okR h K) (f : frx (rpS K) h h1) (o : okR h1 K) : ∀ K, okR h1 K := fun K' => by
  by_cases c : K' = K
  · rw [c]; exact o
  · exact (ok K').same (fun r h1 h2 => f.2.2.2 r K' (by unfold rpS; omega))
theorem stP.on {h h1 : Hp} {S : Nat → Nat → Prop} {K : Nat} {q : StpQ} {d : Nat} (s : stP h K q d) (f : frx S h h1) (hS : ∀ r, 624 ≤ r → r ≤ 631 → ¬ S r K) : stP h1 K q d := by
  obtain ⟨op, s0, s1, s2⟩ := s
  exact ⟨op, s0, (f.2.2.2 624 K (hS _ (by omega) (by omega))).trans s1, s2.same (fun r h1 h2 => f.2.2.2 r K (hS r (by omega) h2))⟩
/-- a step, and what comes behind it -/
theorem w_r119 {KK : Nat → Int32 → Hp → Option (Int32 × Hp)} {a k : Nat} {Q : List (StpQ × Nat)} {L : Nat → Int32} {h : Hp} (q : rA h T a (K0 + Q.length)) (l : lbR h L) (ok : ∀ K, okR h K) (hk : K0 + Q.length + 1 < 11100) (st : ∀ (i : Nat) (s : StpQ × Nat), Q[i]? = some s → stP h (K0 + i) s.1 s.2)
    (go : ∀ (a1 : Nat) (s : StpQ × Nat) (h1 : Hp), rA h1 T a1 (K0 + (Q ++ [s]).length) → lbR h1 L → (∀ K, okR h1 K) → (∀ (i : Nat) (s1 : StpQ × Nat), (Q ++ [s])[i]? = some s1 → stP h1 (K0 + i) s1.1 s1.2) → lOut K0 h1 T (pLp T k (Q ++ [s]) L a1) (KK 616 (nI K0) h1)) :
    lOut K0 h T (if (pSt T a).1 = false then (false, (pSt T a).2.1, Q, L) else if (pTk T 59 (pSt T a).2.1).1 = false then (false, (pTk T 59 (pSt T a).2.1).2, Q, L) else pLp T k (Q ++ [((pSt T a).2.2.1, (pSt T a).2.2.2)]) L (pTk T 59 (pSt T a).2.1).2) (f_X11_read_119 KK 616 (nI K0) h) := by
  obtain ⟨m, m1, m2, m3, m4, m5⟩ := w_stp q (ok _)
  have okm := rA.all ok m3 m4
  have fm : frx (pgF K0) h m := m3.mono (fun a j z => z.pg (by omega))
  have lm : lbR m L := fun d hd => (m3.2.2.2 632 d (by unfold rpS; omega)).trans (l d hd)
  have stm : ∀ (i : Nat) (s : StpQ × Nat), Q[i]? = some s → stP m (K0 + i) s.1 s.2 := fun i s hi => (st i s hi).on m3 (fun r h1 h2 => by
    have := (List.getElem?_eq_some_iff.mp hi).1
    unfold rpS; omega)
  unfold f_X11_read_119
  rw [ck_yes (RF_o q.1), m1, bind_some9]
  dsimp only
  cases c1 : (pSt T a).1 with
  | false =>
    rw [c1] at m2
    rw [if_pos rfl, show (if false = true ∧ (pTk T 59 (pSt T a).2.1).1 = true then (1 : Int32) else 0) = 0 from if_neg (fun z => by cases z.1), if_pos rfl, ck_yes (RF_o m2.1)]
    exact lOut.no fm okm m2.2.1.2.1 m2.2.1.2.2
  | true =>
    rw [c1, if_pos rfl] at m2
    rw [if_neg (show ¬ true = false from fun z => by cases z)]
    cases c2 : (pTk T 59 (pSt T a).2.1).1 with
    | false =>
      rw [if_pos rfl, show (if true = true ∧ false = true then (1 : Int32) else 0) = 0 from if_neg (fun z => by cases z.2), if_pos rfl, ck_yes (RF_o m2.1)]
      exact lOut.no fm okm m2.2.1.2.1 m2.2.1.2.2
    | true =>
      rw [if_neg (show ¬ true = false from fun z => by cases z), show (if true = true ∧ true = true then (1 : Int32) else 0) = 1 from if_pos ⟨rfl, rfl⟩, if_neg (show ¬ (1 : Int32) = 0 by decide), ck_yes (RF_o m2.1), m2.2.2.1.1, zi_one]
      have f2 : frx (pgF K0) m (pI m 1213 616 (nI (K0 + Q.length + 1))) := frx_pI (Or.inl ⟨rfl, Or.inr rfl⟩)
      have f3 : frx (fun a j => a = 616 ∧ j = 1213) m (pI m 1213 616 (nI (K0 + Q.length + 1))) := frx_pI ⟨rfl, rfl⟩
      refine (go _ _ (pI m 1213 616 (nI (K0 + Q.length + 1))) ?_ (fun d hd => lm d hd) okm (fun i s hi => ?_)).pre (fm.trans f2)
      · obtain ⟨H, ⟨e1, e2, e3⟩, -, t, cc⟩ := m2
        refine ⟨H.on f3, ⟨(f3.2.2.1 1204 (by omega)).trans e1, (f3.2.2.1 1223 (by omega)).trans e2, e3⟩, ⟨?_, ?_⟩, t, cc⟩
        · rw [zI_pI, if_pos ⟨rfl, rfl⟩, List.length_append, List.length_singleton, Nat.add_assoc]
        · rw [List.length_append, List.length_singleton]; omega
      · by_cases ci : i < Q.length
        · rw [List.getElem?_append_left ci] at hi
          exact stm i s hi
        · have e2 : i = Q.length := by
            have := (List.getElem?_eq_some_iff.mp hi).1
            rw [List.length_append, List.length_singleton] at this
            omega
          rw [e2, List.getElem?_append_right (Nat.le_refl _), Nat.sub_self] at hi
          have hi : some ((pSt T a).2.2.1, (pSt T a).2.2.2) = some s := hi
          cases hi
          rw [e2]
          exact m5 c1 c2
theorem w_rd26 (hK : K0 + 62 < 11100) : ∀ (k fuel : Nat) (Q : List (StpQ × Nat)) (L : Nat → Int32) (a : Nat) (h : Hp), rA h T a (K0 + Q.length) → lbR h L → (∀ K, okR h K) → Q.length + k = 61 → 1 ≤ k → k < fuel → (∀ (i : Nat) (s : StpQ × Nat), Q[i]? = some s → stP h (K0 + i) s.1 s.2) → lOut K0 h T (pLp T k Q L a) (f_X11_read_26 fuel 616 (nI K0) h)
  | k, 0, _, _, _, _, _, _, _, _, _, hf, _ => absurd hf (Nat.not_lt_zero _)
  | 0, _ + 1, _, _, _, _, _, _, _, _, h1, _, _ => by omega
  | k + 1, fuel + 1, Q, L, a, h, q, l, ok, hk, h1, hf, st => by
    have H := q.1
    have tl := q.2.2.2.1.1
    have al := q.2.1.2.2
    unfold pLp f_X11_read_26
    rw [ck_yes (RF_o H), q.2.1.1, q.2.1.2.1]
    by_cases c1 : T.length ≤ a
    · rw [if_pos c1, if_pos ((zi_le (by omega) (by omega)).mpr c1)]
      exact ⟨h, frx.rf h, ok, (fun z => by cases z), fun _ => ⟨rfl, q, l, st⟩⟩
    rw [if_neg c1, if_neg (zi_le0 (by omega) (by omega) c1), q.2.2.1.1, zi_sub (by omega), Nat.add_sub_cancel_left]
    by_cases c2 : Q.length = 60
    · rw [if_pos c2, if_pos (by rw [c2]; rfl)]
      exact ⟨h, frx.rf h, ok, fun _ => ⟨rfl, al⟩, fun z => by cases z⟩
    have c2' : ¬ nI Q.length = (60 : Int32) := fun z => c2 ((zi_eq (b := 60) (by omega) (by omega)).mp z)
    rw [if_neg c2, if_neg c2', w_dig q, bind_some9]
    dsimp only
    have rek : ∀ (L1 : Nat → Int32) (a1 : Nat) (s : StpQ × Nat) (h1 : Hp), rA h1 T a1 (K0 + (Q ++ [s]).length) → lbR h1 L1 → (∀ K, okR h1 K) → (∀ (i : Nat) (s1 : StpQ × Nat), (Q ++ [s])[i]? = some s1 → stP h1 (K0 + i) s1.1 s1.2) → lOut K0 h1 T (pLp T k (Q ++ [s]) L1 a1) (f_X11_read_26 fuel 616 (nI K0) h1) := fun L1 a1 s h1 b1 b2 b3 b4 =>
      w_rd26 hK k fuel (Q ++ [s]) L1 a1 h1 b1 b2 b3 (by rw [List.length_append, List.length_singleton]; omega) (by omega) (by omega) b4
    by_cases c3 : pk T a < 48 ∨ 57 < pk T a
    · have e : pLb T L Q.length a = (true, a, L) := by unfold pLb; rw [if_pos c3]
      rw [e, if_pos c3, if_pos rfl]
      dsimp only
      rw [if_neg (show ¬ true = false from fun z => by cases z)]
      exact w_r119 q l ok (by omega) st (rek L)
    · obtain ⟨x, x1, x2, x3⟩ := pk_dig q.2.2.2.1 c3
      have e48 : pk T a - 48 = nI (x - 48) := by rw [x3]; exact zi_sub (b := 48) x1
      have tx : (nI (x - 48)).toNatClampNeg = x - 48 := zi_nat (by omega)
      rw [if_neg c3, if_neg (show ¬ (1 : Int32) = 0 by decide), ck_yes (RF_o H), w_see q, bind_some9]
      unfold bh
      dsimp only
      rw [ck_yes (RF_o H), RF_1222 H, ck_yes (RO_632 H), e48, RL_632 H, ck_yes (zi_in (by omega : x - 48 < 10) (by omega)), tx, l (x - 48) (by omega)]
      by_cases c4 : L (x - 48) = -1
      · have e : pLb T L Q.length a = ((pTk T 58 (a + 1)).1, (pTk T 58 (a + 1)).2, upf L (x - 48) (nI Q.length)) := by
          unfold pLb
          rw [if_neg c3, e48, tx, if_pos c4]
        rw [e, if_pos c4]
        dsimp only
        have fa : frx (pgF K0) h (pI (pE h 632 (x - 48) (nI Q.length)) 1223 616 (nI (a + 1))) := (frx_pE (S := pgF K0) (Or.inr (Or.inr rfl))).trans (frx_pI (Or.inl ⟨rfl, Or.inl rfl⟩))
        have fb : frx (fun p j => p = 632 ∨ (p = 616 ∧ j = 1223)) h (pI (pE h 632 (x - 48) (nI Q.length)) 1223 616 (nI (a + 1))) := (frx_pE (S := fun p j => p = 632 ∨ (p = 616 ∧ j = 1223)) (Or.inl rfl)).trans (frx_pI (Or.inr ⟨rfl, rfl⟩))
        have qm : rA (pI (pE h 632 (x - 48) (nI Q.length)) 1223 616 (nI (a + 1))) T (a + 1) (K0 + Q.length) := q.on fb (by omega) (by omega) (fun j => by omega) (by rw [zI_pI, if_pos ⟨rfl, rfl⟩]) (by omega)
        have lm : lbR (pI (pE h 632 (x - 48) (nI Q.length)) 1223 616 (nI (a + 1))) (upf L (x - 48) (nI Q.length)) := fun d hd => by
          rw [zE_pI, zE_pE]
          unfold upf
          by_cases cd : d = x - 48
          · rw [if_pos ⟨rfl, cd⟩, if_pos cd]
          · rw [if_neg (fun z => cd z.2), if_neg cd]; exact l d hd
        have okm : ∀ K, okR (pI (pE h 632 (x - 48) (nI Q.length)) 1223 616 (nI (a + 1))) K := fun K => (ok K).same (fun r h1 h2 => fb.2.2.2 r K (by omega))
        have stm : ∀ (i : Nat) (s : StpQ × Nat), Q[i]? = some s → stP (pI (pE h 632 (x - 48) (nI Q.length)) 1223 616 (nI (a + 1))) (K0 + i) s.1 s.2 := fun i s hi => (st i s hi).on fb (fun r _ _ => by omega)
        rw [q.2.2.1.1, zi_sub (by omega), Nat.add_sub_cancel_left, show zI (pE h 632 (x - 48) (nI Q.length)) 1223 616 = zI h 1223 616 from rfl, q.2.1.2.1, zi_one]
        generalize pI (pE h 632 (x - 48) (nI Q.length)) 1223 616 (nI (a + 1)) = m at *
        obtain ⟨g, g1, g2, g3, g4⟩ := w_takes qm (c := 58) (by decide)
        rw [g1, bind_some9]
        dsimp only
        have fg : frx (pgF K0) h g := fa.trans (g3.mono (fun a j z => Or.inl ⟨z.1, Or.inl z.2⟩))
        have okg : ∀ K, okR g K := fun K => (okm K).same (fun r _ _ => by rw [g4])
        cases c5 : (pTk T 58 (a + 1)).1 with
        | false =>
          rw [if_pos rfl, if_neg (fun z => Bool.noConfusion z), if_pos rfl, ck_yes (RF_o g2.1)]
          exact lOut.no fg okg g2.2.1.2.1 g2.2.1.2.2
        | true =>
          rw [if_neg (show ¬ true = false from fun z => by cases z), if_pos rfl, if_neg (show ¬ (1 : Int32) = 0 by decide)]
          exact (w_r119 g2 (fun d hd => by rw [g4]; exact lm d hd) okg (by omega) (fun i s hi => (stm i s hi).on g3 (fun r _ _ => by unfold seS; omega)) (rek _)).pre fg
      · have e : pLb T L Q.length a = (false, a, L) := by
          unfold pLb
          rw [if_neg c3, e48, tx, if_neg c4]
        rw [e, if_neg c4]
        dsimp only
        rw [if_pos rfl]
        exact lOut.no (frx.rf h) ok q.2.1.2.1 al
end Rl
/-! the reference links the labels -/
theorem stR.at {h h1 : Hp} {K op : Nat} {q : StpQ} {d : Nat} (s : stR h K op q d) (e : zE h 624 K = nI op) (nj : jmp q = false) : stAt h K q := by
  obtain ⟨s1, s2, s3, s4, s5, s6⟩ := s
  have n73 : q.1 ≠ 73 := fun z => by unfold jmp at nj; rw [z] at nj; simp at nj
  have n71 : q.1 ≠ 71 := fun z => by unfold jmp at nj; rw [z] at nj; simp at nj
  refine ⟨s1, s2, s3, op, e, s4, s5, ?_⟩
  rcases s6 with z | z | z | z | z | z | z | z | z | z | z | z | z | z | z
  · exact Or.inl z
  · exact Or.inr (Or.inl z)
  · exact Or.inr (Or.inr (Or.inl z))
  · exact Or.inr (Or.inr (Or.inr (Or.inl z)))
  · exact Or.inr (Or.inr (Or.inr (Or.inr (Or.inl z))))
  · exact Or.inr (Or.inr (Or.inr (Or.inr (Or.inr (Or.inl z)))))
  · exact Or.inr (Or.inr (Or.inr (Or.inr (Or.inr (Or.inr (Or.inl z))))))
  · exact Or.inr (Or.inr (Or.inr (Or.inr (Or.inr (Or.inr (Or.inr (Or.inl z)))))))
  · exact Or.inr (Or.inr (Or.inr (Or.inr (Or.inr (Or.inr (Or.inr (Or.inr (Or.inl z))))))))
  · exact Or.inr (Or.inr (Or.inr (Or.inr (Or.inr (Or.inr (Or.inr (Or.inr (Or.inr (Or.inl z)))))))))
  · exact Or.inr (Or.inr (Or.inr (Or.inr (Or.inr (Or.inr (Or.inr (Or.inr (Or.inr (Or.inr (Or.inl z))))))))))
  · exact Or.inr (Or.inr (Or.inr (Or.inr (Or.inr (Or.inr (Or.inr (Or.inr (Or.inr (Or.inr (Or.inr (Or.inl z)))))))))))
  · exact absurd z.2.1 n73
  · exact absurd z.2.1 n71
  · exact Or.inr (Or.inr (Or.inr (Or.inr (Or.inr (Or.inr (Or.inr (Or.inr (Or.inr (Or.inr (Or.inr (Or.inr (Or.inr (Or.inr z)))))))))))))
theorem stR.jm {h : Hp} {K op : Nat} {q : StpQ} {d : Nat} (s : stR h K op q d) (hop : op < 15) : (jmp q = true ↔ (op = 12 ∨ op = 13)) ∧ (jmp q = true → zE h 630 K = q.2.2.1 ∧ zE h 631 K = nI d) := by
  obtain ⟨-, -, -, -, -, s6⟩ := s
  have no : ∀ c : Int32, q.1 = c → c ≠ 73 → c ≠ 71 → ¬ jmp q = true := fun c hc h1 h2 z => by
    unfold jmp at z
    rw [hc, decide_eq_false h1, decide_eq_false h2] at z
    cases z
  have f : ∀ c : Int32, q.1 = c → c ≠ 73 → c ≠ 71 → op ≠ 12 → op ≠ 13 → (jmp q = true ↔ (op = 12 ∨ op = 13)) ∧ (jmp q = true → zE h 630 K = q.2.2.1 ∧ zE h 631 K = nI d) := fun c hc h1 h2 h3 h4 => ⟨⟨fun z => absurd z (no c hc h1 h2), fun z => by omega⟩, fun z => absurd z (no c hc h1 h2)⟩
  rcases s6 with z | z | z | z | z | z | z | z | z | z | z | z | z | z | z
  · exact f _ z.2.1 (by decide) (by decide) (by omega) (by omega)
  · exact f _ z.2 (by decide) (by decide) (by omega) (by omega)
  · exact f _ z.2 (by decide) (by decide) (by omega) (by omega)
  · exact f _ z.2 (by decide) (by decide) (by omega) (by omega)
  · exact f _ z.2 (by decide) (by decide) (by omega) (by omega)
  · exact f _ z.2 (by decide) (by decide) (by omega) (by omega)
  · exact f _ z.2.1 (by decide) (by decide) (by omega) (by omega)
  · exact f _ z.2 (by decide) (by decide) (by omega) (by omega)
  · exact f _ z.2.1 (by decide) (by decide) (by omega) (by omega)
  · exact f _ z.2 (by decide) (by decide) (by omega) (by omega)
  · exact f _ z.2 (by decide) (by decide) (by omega) (by omega)
  · exact f _ z.2 (by decide) (by decide) (by omega) (by omega)
  · exact ⟨⟨fun _ => Or.inl z.1, fun _ => by unfold jmp; rw [z.2.1]; rfl⟩, fun _ => z.2.2⟩
  · exact ⟨⟨fun _ => Or.inr z.1, fun _ => by unfold jmp; rw [z.2.1]; rfl⟩, fun _ => z.2.2⟩
  · exact f _ z.2 (by decide) (by decide) (by omega) (by omega)
/-- a linked step -/
theorem stR.lk {h : Hp} {K op : Nat} {q : StpQ} {d : Nat} {L : Nat → Int32} (s : stR h K op q d) (e : zE h 624 K = nI op) (j : jmp q = true) : stAt (pE h 630 K (L q.2.2.1.toNatClampNeg)) K (lnk L q) := by
  obtain ⟨⟨it, i1, i2, -⟩, s2, s3, s4, s5, s6⟩ := s
  have eq : lnk L q = (q.1, L q.2.2.1.toNatClampNeg, q.2.2) := by unfold lnk; rw [if_pos j]
  rw [eq]
  have g : ∀ r, r ≠ 630 → zE (pE h 630 K (L q.2.2.1.toNatClampNeg)) r K = zE h r K := fun r hr => by rw [zE_pE, if_neg (fun z => hr z.1)]
  have g0 : zE (pE h 630 K (L q.2.2.1.toNatClampNeg)) 630 K = L q.2.2.1.toNatClampNeg := by rw [zE_pE, if_pos ⟨rfl, rfl⟩]
  have jc : q.1 = 73 ∨ q.1 = 71 := by
    unfold jmp at j
    rw [Bool.or_eq_true, decide_eq_true_eq, decide_eq_true_eq] at j
    exact j
  have ns : ¬ stSets q.1 := by
    rcases jc with z | z <;> rw [z]
    · exact ns73
    · exact ns71
  refine ⟨⟨it, i1, by rw [g 625 (by omega)]; exact i2, fun z => absurd z ns⟩, by rw [g 626 (by omega), g 627 (by omega)]; exact s2, by rw [g 628 (by omega), g 629 (by omega)]; exact s3, op, by rw [g 624 (by omega)]; exact e, ?_, ?_, ?_⟩
  · rw [g 626 (by omega), g 627 (by omega)]; exact s4
  · rw [g 628 (by omega), g 629 (by omega)]; exact s5
  · have no : ∀ c : Int32, q.1 = c → c ≠ 73 → c ≠ 71 → False := fun c hc h1 h2 => by
      rcases jc with z | z
      · exact h1 (hc.symm.trans z)
      · exact h2 (hc.symm.trans z)
    rcases s6 with z | z | z | z | z | z | z | z | z | z | z | z | z | z | z
    · exact (no _ z.2.1 (by decide) (by decide)).elim
    · exact (no _ z.2 (by decide) (by decide)).elim
    · exact (no _ z.2 (by decide) (by decide)).elim
    · exact (no _ z.2 (by decide) (by decide)).elim
    · exact (no _ z.2 (by decide) (by decide)).elim
    · exact (no _ z.2 (by decide) (by decide)).elim
    · exact (no _ z.2.1 (by decide) (by decide)).elim
    · exact (no _ z.2 (by decide) (by decide)).elim
    · exact (no _ z.2.1 (by decide) (by decide)).elim
    · exact (no _ z.2 (by decide) (by decide)).elim
    · exact (no _ z.2 (by decide) (by decide)).elim
    · exact (no _ z.2 (by decide) (by decide)).elim
    · exact Or.inr (Or.inr (Or.inr (Or.inr (Or.inr (Or.inr (Or.inr (Or.inr (Or.inr (Or.inr (Or.inr (Or.inr (Or.inl ⟨z.1, z.2.1, g0⟩))))))))))))
    · exact Or.inr (Or.inr (Or.inr (Or.inr (Or.inr (Or.inr (Or.inr (Or.inr (Or.inr (Or.inr (Or.inr (Or.inr (Or.inr (Or.inl ⟨z.1, z.2.1, g0⟩)))))))))))))
    · exact (no _ z.2 (by decide) (by decide)).elim
theorem stAt.onR {h h1 : Hp} {S : Nat → Nat → Prop} {K : Nat} {q : StpQ} (s : stAt h K q) (f : frx S h h1) (hS : ∀ r, 624 ≤ r → r ≤ 630 → ¬ S r K) : stAt h1 K q := by
  have e : ∀ r, 624 ≤ r → r ≤ 630 → zE h1 r K = zE h r K := fun r h1 h2 => f.2.2.2 r K (hS r h1 h2)
  unfold stAt at s ⊢
  rw [e 624 (by omega) (by omega), e 625 (by omega) (by omega), e 626 (by omega) (by omega), e 627 (by omega) (by omega), e 628 (by omega) (by omega), e 629 (by omega) (by omega), e 630 (by omega) (by omega)]
  exact s
theorem w_lnk {L : Nat → Int32} : ∀ (Q : List (StpQ × Nat)) (i fuel : Nat) (h : Hp), RF h → zI h 1213 616 = nI (i + Q.length) → i + Q.length < 11100 → lbR h L → (∀ (j : Nat) (s : StpQ × Nat), Q[j]? = some s → stP h (i + j) s.1 s.2 ∧ (jmp s.1 = true → ∃ x, x < 10 ∧ s.1.2.2.1 = nI x)) → Q.length < fuel → ∃ h1, frx (fun a j => a = 630 ∧ i ≤ j) h h1 ∧ (∀ d, pLk L Q = some d → f_X11_read_146 fuel 616 (nI i) h = some (nI d, h1)) ∧ (pLk L Q = none → f_X11_read_146 fuel 616 (nI i) h = some (-1, h1) ∧ ∀ (j : Nat) (s : StpQ × Nat), Q[j]? = some s → stAt h1 (i + j) (lnk L s.1))
  | Q, i, 0, _, _, _, _, _, _, hf => absurd hf (Nat.not_lt_zero _)
  | [], i, fuel + 1, h, H, e, hb, l, st, hf => by
    refine ⟨h, frx.rf h, (fun d hd => by cases hd), fun _ => ⟨?_, fun j s hj => by simp at hj⟩⟩
    unfold f_X11_read_146
    have hb0 : i < 11100 := hb
    rw [ck_yes (RF_o H), show zI h 1213 616 = nI i from e, if_pos ((zi_le (by omega) (by omega)).mpr (Nat.le_refl _))]
  | s :: Q, i, fuel + 1, h, H, e, hb, l, st, hf => by
    have hb' : i + (Q.length + 1) < 11100 := hb
    have e' : zI h 1213 616 = nI (i + 1 + Q.length) := by rw [e]; congr 1; show i + (Q.length + 1) = _; omega
    have ti : (nI i).toNatClampNeg = i := zi_nat (by omega)
    have hf' : Q.length + 1 < fuel + 1 := hf
    obtain ⟨⟨op, o1, o2, o3⟩, dg⟩ := st 0 s rfl
    rw [Nat.add_zero] at o2 o3
    obtain ⟨j1, j2⟩ := o3.jm o1
    have base : f_X11_read_146 (fuel + 1) 616 (nI i) h = (if op = 12 ∨ op = 13 then f_X11_read_179 (f_X11_read_146 fuel) 616 (nI i) h else f_X11_read_218 (f_X11_read_146 fuel) 616 (nI i) h) := by
      conv => lhs; unfold f_X11_read_146
      rw [ck_yes (RF_o H), e', if_neg (zi_le0 (by omega) (by omega) (by omega)), RF_1214 H, ck_yes (RO_624 H), RL_624 H, ck_yes (zi_in (by omega : i < 11100) (by omega)), ti, o2]
      by_cases c1 : op = 12
      · rw [if_pos (by rw [c1]; rfl), if_pos (Or.inl c1)]
      · rw [if_neg (show ¬ nI op = (12 : Int32) from fun z => c1 ((zi_eq (b := 12) (by omega) (by omega)).mp z))]
        by_cases c2 : op = 13
        · rw [if_pos (by rw [c2]; rfl), if_pos (Or.inr c2)]
        · rw [if_neg (show ¬ nI op = (13 : Int32) from fun z => c2 ((zi_eq (b := 13) (by omega) (by omega)).mp z)), if_neg (fun z => z.elim c1 c2)]
    have find : ∀ (b : Bool), (jmp s.1 && decide (L s.1.2.2.1.toNatClampNeg = -1)) = b → pLk L (s :: Q) = if b = true then some s.2 else pLk L Q := fun b hb => by
      unfold pLk
      rw [List.find?_cons]
      rw [hb]
      cases b <;> rfl
    cases cj : jmp s.1 with
    | false =>
      have fd := find false (by rw [cj]; rfl)
      rw [if_neg (fun z => Bool.noConfusion z)] at fd
      have nop : ¬ (op = 12 ∨ op = 13) := fun z => by rw [j1.mpr z] at cj; cases cj
      obtain ⟨h1, x1, x2, x3⟩ := w_lnk Q (i + 1) fuel h H e' (by omega) l (fun j s1 hj => by
        have := st (j + 1) s1 hj
        rw [show i + (j + 1) = i + 1 + j by omega] at this
        exact this) (by omega)
      rw [base, if_neg nop, fd]
      unfold f_X11_read_218 bh
      dsimp only
      rw [zi_one]
      refine ⟨h1, x1.mono (fun a j z => ⟨z.1, by omega⟩), x2, fun z => ⟨(x3 z).1, fun j s1 hj => ?_⟩⟩
      cases j with
      | zero =>
        have hj : some s = some s1 := hj
        cases hj
        have : lnk L s.1 = s.1 := by unfold lnk; rw [cj]; rfl
        rw [this]
        exact (o3.at (h1 := h) o2 cj).onR x1 (fun r _ _ => by omega)
      | succ j =>
        rw [show i + (j + 1) = i + 1 + j by omega]
        exact (x3 z).2 j s1 hj
    | true =>
      obtain ⟨x, dx, dx2⟩ := dg cj
      obtain ⟨k1, k2⟩ := j2 cj
      have tx : (nI x).toNatClampNeg = x := zi_nat (by omega)
      have yop : op = 12 ∨ op = 13 := j1.mp cj
      rw [base, if_pos yop]
      have ex : zE h 630 (nI i).toNatClampNeg = nI x := by rw [ti, k1, dx2]
      have base2 : f_X11_read_179 (f_X11_read_146 fuel) 616 (nI i) h = if L x = -1 then some (nI s.2, h) else f_X11_read_218 (f_X11_read_146 fuel) 616 (nI i) (pE h 630 i (L x)) := by
        unfold f_X11_read_179
        rw [ck_yes (RF_o H), RF_1220 H, ck_yes (RO_630 H), RL_630 H, ck_yes (zi_in (by omega : i < 11100) (by omega)), RF_1222 H, ck_yes (RO_632 H), ck_yes (show inR (zE h 630 (nI i).toNatClampNeg) (zL h 632) by rw [ex, RL_632 H]; exact zi_in dx (by omega)), ex, tx, l x dx, RF_1221 H, ck_yes (RO_631 H), RL_631 H, ck_yes (zi_in (by omega : i < 11100) (by omega)), ti, k2]
        rfl
      rw [base2]
      by_cases cL : L x = -1
      · have fd := find true (by rw [cj, dx2, tx, decide_eq_true cL]; rfl)
        rw [if_pos rfl] at fd
        rw [if_pos cL, fd]
        exact ⟨h, frx.rf h, (fun d hd => by cases hd; rfl), fun z => by cases z⟩
      · have fd := find false (by rw [cj, dx2, tx, decide_eq_false cL]; rfl)
        rw [if_neg (fun z => Bool.noConfusion z)] at fd
        rw [if_neg cL, fd]
        have f1 : frx (fun a j => a = 630 ∧ j = i) h (pE h 630 i (L x)) := frx_pE ⟨rfl, rfl⟩
        obtain ⟨h1, x1, x2, x3⟩ := w_lnk (L := L) Q (i + 1) fuel (pE h 630 i (L x)) (H.on f1) e' (by omega) (fun d hd => by rw [zE_pE, if_neg (by omega)]; exact l d hd) (fun j s1 hj => by
          have := st (j + 1) s1 hj
          rw [show i + (j + 1) = i + 1 + j by omega] at this
          exact ⟨this.1.on f1 (fun r _ _ => by omega), this.2⟩) (by omega)
        unfold f_X11_read_218 bh
        dsimp only
        rw [zi_one]
        refine ⟨h1, (f1.mono (fun a j z => ⟨z.1, by omega⟩)).trans (x1.mono (fun a j z => ⟨z.1, by omega⟩)), x2, fun z => ⟨(x3 z).1, fun j s1 hj => ?_⟩⟩
        cases j with
        | zero =>
          have hj : some s = some s1 := hj
          cases hj
          have := o3.lk (L := L) o2 cj
          rw [dx2, tx] at this
          exact this.onR x1 (fun r _ _ => by omega)
        | succ j =>
          rw [show i + (j + 1) = i + 1 + j by omega]
          exact (x3 z).2 j s1 hj
