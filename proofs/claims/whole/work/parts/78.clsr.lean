/-! A CHARACTER OF A LONG: both shifts give it -/
theorem b255q : ∀ j : Nat, (hj : j < 64) → 8 ≤ j → (255#64)[j] = false := by decide
theorem shr255 (w : Int64) {i : Nat} (hi : i < 8) : ((w.toUInt64 >>> (UInt64.ofNat (8 * i))).toInt64 &&& 255) = ((w >>> (Int64.ofNat (8 * i))) &&& 255) := by
  have : i = 0 ∨ i = 1 ∨ i = 2 ∨ i = 3 ∨ i = 4 ∨ i = 5 ∨ i = 6 ∨ i = 7 := by omega
  have fin : ∀ (x : BitVec 64) (n j : Nat) (hj : j < 64), n ≤ 56 → (x.getLsbD (n + j) && (255#64)[j]) = ((x.sshiftRight n)[j] && (255#64)[j]) := fun x n j hj hn => by
    by_cases c : 8 ≤ j
    · rw [b255q j hj c, Bool.and_false, Bool.and_false]
    · rw [BitVec.getElem_sshiftRight, dif_pos (by omega)]
      rfl
  rcases this with e | e | e | e | e | e | e | e <;> subst e
  · apply Int64.toBitVec_inj.mp; ext j hj; simp
  · apply Int64.toBitVec_inj.mp; ext j hj; simp; exact fin _ 8 j hj (by omega)
  · apply Int64.toBitVec_inj.mp; ext j hj; simp; exact fin _ 16 j hj (by omega)
  · apply Int64.toBitVec_inj.mp; ext j hj; simp; exact fin _ 24 j hj (by omega)
  · apply Int64.toBitVec_inj.mp; ext j hj; simp; exact fin _ 32 j hj (by omega)
  · apply Int64.toBitVec_inj.mp; ext j hj; simp; exact fin _ 40 j hj (by omega)
  · apply Int64.toBitVec_inj.mp; ext j hj; simp; exact fin _ 48 j hj (by omega)
  · apply Int64.toBitVec_inj.mp; ext j hj; simp; exact fin _ 56 j hj (by omega)
/-- the shifts as they are written -/
theorem shA8 : ∀ i : Nat, i < 8 → (((8 : Int32) * nI i).toInt64 &&& 63) = Int64.ofNat (8 * i) ∧ (((8 : Int32) * nI i).toInt64.toUInt64 &&& Int64.toUInt64 63) = UInt64.ofNat (8 * i) := by decide
/-- the character i of a long, from below -/
def chr (w : Int64) (i : Nat) : Int32 := (((w >>> (((8 : Int32) * nI i).toInt64 &&& 63)) &&& 255) : Int64).toInt32
theorem and255L (z : Int64) : ∃ y : Nat, y < 256 ∧ (z &&& 255) = Int64.ofNat y := by
  refine ⟨z.toBitVec.toNat % 256, Nat.mod_lt _ (by decide), ?_⟩
  apply Int64.toBitVec_inj.mp
  apply BitVec.eq_of_toNat_eq
  have h1 : (z &&& 255).toBitVec.toNat = z.toBitVec.toNat &&& 255 := by
    rw [Int64.toBitVec_and, BitVec.toNat_and]
    rfl
  have h2 : z.toBitVec.toNat &&& 255 = z.toBitVec.toNat % 256 := Nat.and_two_pow_sub_one_eq_mod z.toBitVec.toNat 8
  have h3 : (Int64.ofNat (z.toBitVec.toNat % 256)).toBitVec.toNat = z.toBitVec.toNat % 256 := by
    show (BitVec.ofNat 64 (z.toBitVec.toNat % 256)).toNat = _
    rw [BitVec.toNat_ofNat]
    omega
  rw [h1, h2, h3]
theorem ofN64 (y : Nat) : (Int64.ofNat y).toInt32 = Int32.ofNat y := by
  first
  | exact Int64.toInt32_ofNat'
  | simp
/-! THE TAPE OF THE CLASS -/
def okC (w : Int64) (i : Nat) : Prop := ∃ x : Nat, 33 ≤ x ∧ x ≤ 126 ∧ chr w i = nI x
/-- the characters below n, the highest first -/
def chs (w : Int64) : Nat → List Int32
  | 0 => []
  | n + 1 => chr w n :: chs w n
theorem tpT.add {h : Hp} {T : List Int32} (q : tpT h T) (hl : T.length < 300) {x : Nat} (h1 : 33 ≤ x) (h2 : x ≤ 126) : tpT (pI (pE h 10 T.length (nI x)) 403 9 (nI (T.length + 1))) (T ++ [nI x]) ∧ cf (fun a j => (a = 9 ∧ j = 403) ∨ a = 10) h (pI (pE h 10 T.length (nI x)) 403 9 (nI (T.length + 1))) := by
  obtain ⟨⟨o, r0, r1, r2⟩, a10, a11, a12, e3, t, c⟩ := q
  refine ⟨⟨⟨o, r0, r1, r2⟩, a10, a11, a12, ?_, ⟨?_, fun y hy => ?_⟩, fun k y hk => ?_⟩, ?_⟩
  · rw [zI_pI, if_pos ⟨rfl, rfl⟩, List.length_append, List.length_singleton]
  · rw [List.length_append, List.length_singleton]; omega
  · rcases List.mem_append.mp hy with z | z
    · exact t.2 y z
    · exact ⟨x, h1, h2, List.mem_singleton.mp z⟩
  · rw [zE_pI, zE_pE]
    by_cases e : k < T.length
    · rw [if_neg (by omega)]
      rw [List.getElem?_append_left e] at hk
      exact c k y hk
    · have e2 : k = T.length := by
        have := (List.getElem?_eq_some_iff.mp hk).1
        rw [List.length_append, List.length_singleton] at this
        omega
      rw [e2, List.getElem?_append_right (Nat.le_refl _), Nat.sub_self] at hk
      have hk : some (nI x) = some y := hk
      cases hk
      rw [if_pos ⟨rfl, e2⟩]
  · exact (cf_pE (S := fun a j => (a = 9 ∧ j = 403) ∨ a = 10) (Or.inr rfl)).tr (cf_pI (Or.inl ⟨rfl, rfl⟩))
/-! TYPE, IN THE CLASS -/
def okA (w : Int64) : Nat → Nat → Bool
  | 0, _ => true
  | k + 1, i => if chr w i < 33 then false else if chr w i ≤ 126 then okA w k (i + 1) else false
/-- what is typed -/
def typ (T : List Int32) (w : Int64) (n : Int32) : Bool × List Int32 :=
  if n < 1 then (false, T) else if 8 < n then (false, T) else if nI T.length + n ≤ 300 then
    (if okA w n.toNatClampNeg 0 = true then (true, T ++ chs w n.toNatClampNeg) else (false, T))
  else (false, T)
theorem chA : ∀ y : Nat, y < 256 → ((lg_cmp (Int64.ofNat y) 33 < 0 ↔ Int32.ofNat y < 33) ∧ (lg_cmp (Int64.ofNat y) 126 ≤ 0 ↔ Int32.ofNat y ≤ 126)) := by decide +kernel
theorem chB : ∀ y : Nat, y < 256 → ((((Int32.ofNat y).toUInt32 % 65536).toInt32).toUInt32 % 65536).toInt32 = Int32.ofNat y := by decide +kernel
theorem chr_nat (w : Int64) {i : Nat} (hi : i < 8) : ∃ y : Nat, y < 256 ∧ chr w i = nI y ∧ ((w.toUInt64 >>> (((8 : Int32) * nI i).toInt64.toUInt64 &&& Int64.toUInt64 63)).toInt64 &&& (255 : Int64)) = Int64.ofNat y := by
  obtain ⟨y, y1, y2⟩ := and255L (w >>> (((8 : Int32) * nI i).toInt64 &&& 63))
  refine ⟨y, y1, ?_, ?_⟩
  · unfold chr
    rw [y2, ofN64]
    rfl
  · rw [(shA8 i hi).2, shr255 w hi, ← (shA8 i hi).1, y2]
theorem okA_all {w : Int64} : ∀ (k i : Nat), i + k ≤ 8 → okA w k i = true → ∀ j, i ≤ j → j < i + k → okC w j
  | 0, i, _, _, j, h1, h2 => by omega
  | k + 1, i, hk, h, j, h1, h2 => by
    unfold okA at h
    by_cases c1 : chr w i < 33
    · rw [if_pos c1] at h; cases h
    · rw [if_neg c1] at h
      by_cases c2 : chr w i ≤ 126
      · rw [if_pos c2] at h
        by_cases e : j = i
        · obtain ⟨y, y1, y2, -⟩ := chr_nat w (i := i) (by omega)
          rw [y2] at c1 c2
          have c1 : ¬ nI y < nI 33 := c1
          have c2 : nI y ≤ nI 126 := c2
          rw [zi_lt (by omega) (by omega)] at c1
          rw [zi_le (by omega) (by omega)] at c2
          exact ⟨y, by omega, c2, by rw [e]; exact y2⟩
        · exact okA_all k (i + 1) (by omega) h j (by omega) (by omega)
      · rw [if_neg c2] at h; cases h
def tyF (a j : Nat) : Prop := (a = 9 ∧ j = 403) ∨ a = 10
theorem c_app78 {w : Int64} : ∀ (n fuel : Nat) (h : Hp) (T : List Int32), tpT h T → T.length + n ≤ 300 → n ≤ 8 → (∀ j, j < n → okC w j) → n < fuel → ∃ h1, f_X3_append_78 fuel 9 w (nI n - 1) h = some (1, h1) ∧ tpT h1 (T ++ chs w n) ∧ cf tyF h h1 ∧ nz h h1
  | n, 0, _, _, _, _, _, _, hf => absurd hf (Nat.not_lt_zero _)
  | 0, fuel + 1, h, T, q, _, _, _, _ => by
    refine ⟨h, ?_, ?_, cf.rf h, rfl⟩
    · unfold f_X3_append_78
      rw [if_pos (by decide)]
    · unfold chs
      rw [List.append_nil]
      exact q
  | n + 1, fuel + 1, h, T, q, hl, h8, hk, hf => by
    obtain ⟨x, x1, x2, x3⟩ := hk n (by omega)
    obtain ⟨y, y1, y2, y3⟩ := chr_nat w (i := n) (by omega)
    have exy : nI x = nI y := x3.symm.trans y2
    rw [zi_eq (by omega) (by omega)] at exy
    obtain ⟨q1, f1⟩ := q.add (x := x) (by omega) x1 x2
    obtain ⟨h1, e1, e2, e3, e4⟩ := c_app78 (w := w) n fuel _ _ q1 (by rw [List.length_append, List.length_singleton]; omega) (by omega) (fun j hj => hk j (by omega)) (by omega)
    refine ⟨h1, ?_, ?_, f1.tr e3, e4⟩
    · have s1 : nI (n + 1) - (1 : Int32) = nI n := zi_sub (a := n + 1) (b := 1) (by omega)
      have s2 : nI n + (-1 : Int32) = nI n - 1 := (Int32.sub_eq_add_neg (nI n) 1).symm
      obtain ⟨⟨o, r0, r1, r2⟩, ⟨o10, l10⟩, -, -, e3, -, -⟩ := q
      rw [s1]
      unfold f_X3_append_78
      rw [if_neg (zi_neg (by omega)), ck_yes o, r0, ck_yes o10, e3, l10, ck_yes (zi_in (by omega : T.length < 300) (by omega)), zi_nat (by omega), y3, ofN64, chB y y1, ← exy]
      unfold bh
      dsimp only
      rw [show zI (pE h 10 T.length (Int32.ofNat x)) 403 9 = nI T.length from e3, zi_one, s2]
      exact e1
    · have : chs w (n + 1) = [nI x] ++ chs w n := by
        show chr w n :: chs w n = _
        rw [x3]; rfl
      rw [this, ← List.append_assoc]
      exact e2
theorem c_app28 {w : Int64} {n : Nat} {h : Hp} {T : List Int32} (q : tpT h T) (hl : T.length + n ≤ 300) (h8 : n ≤ 8) : ∀ (k i fuel : Nat), i + k = n → k < fuel → (∀ j, j < i → okC w j) → (okA w k i = true → ∃ h1, f_X3_append_28 fuel 9 w (nI n) (nI i) h = some (1, h1) ∧ tpT h1 (T ++ chs w n) ∧ cf tyF h h1 ∧ nz h h1) ∧ (okA w k i = false → f_X3_append_28 fuel 9 w (nI n) (nI i) h = some (0, h))
  | k, i, 0, _, hf, _ => absurd hf (Nat.not_lt_zero _)
  | 0, i, fuel + 1, hi, _, ok => by
    have hi : i = n := hi
    subst hi
    refine ⟨fun _ => ?_, fun z => by cases z⟩
    unfold f_X3_append_28
    rw [if_pos ((zi_le (by omega) (by omega)).mpr (Nat.le_refl _))]
    exact c_app78 i fz h T q hl h8 ok (fz_big (by omega))
  | k + 1, i, fuel + 1, hi, hf, ok => by
    obtain ⟨y, y1, y2, y3⟩ := chr_nat w (i := i) (by omega)
    obtain ⟨ca, cb⟩ := chA y y1
    have nle : ¬ nI n ≤ nI i := zi_le0 (by omega) (by omega) (by omega)
    have go : f_X3_append_28 (fuel + 1) 9 w (nI n) (nI i) h = if chr w i < 33 then some (0, h) else if chr w i ≤ 126 then f_X3_append_28 fuel 9 w (nI n) (nI (i + 1)) h else some (0, h) := by
      rw [y2]
      conv => lhs; unfold f_X3_append_28
      rw [if_neg nle, y3]
      unfold bh
      dsimp only
      rw [zi_one]
      by_cases c1 : nI y < 33
      · rw [if_pos (ca.mpr c1), if_pos c1]
      · rw [if_neg (fun z => c1 (ca.mp z)), if_neg c1]
        by_cases c2 : nI y ≤ 126
        · rw [if_pos (cb.mpr c2), if_pos c2]
        · rw [if_neg (fun z => c2 (cb.mp z)), if_neg c2]
    rw [go]
    unfold okA
    by_cases c1 : chr w i < 33
    · rw [if_pos c1, if_pos c1]
      exact ⟨(fun z => by cases z), fun _ => rfl⟩
    · rw [if_neg c1, if_neg c1]
      by_cases c2 : chr w i ≤ 126
      · rw [if_pos c2, if_pos c2]
        refine c_app28 q hl h8 k (i + 1) fuel (by omega) (by omega) (fun j hj => ?_)
        by_cases e : j = i
        · rw [y2] at c1 c2
          have c1 : ¬ nI y < nI 33 := c1
          have c2 : nI y ≤ nI 126 := c2
          rw [zi_lt (by omega) (by omega)] at c1
          rw [zi_le (by omega) (by omega)] at c2
          exact ⟨y, by omega, c2, by rw [e]; exact y2⟩
        · exact ok j (by omega)
      · rw [if_neg c2, if_neg c2]
        exact ⟨(fun z => by cases z), fun _ => rfl⟩
theorem int18 {n : Int32} (h1 : ¬ n < 1) (h2 : ¬ 8 < n) : ∃ m : Nat, 1 ≤ m ∧ m ≤ 8 ∧ n = nI m := by
  have g : ¬ n < 0 := fun z => h1 (Int32.lt_trans z (by decide))
  obtain ⟨m, m1, m2⟩ := zi_of g
  rw [m2] at h1 h2
  have h1 : ¬ nI m < nI 1 := h1
  have h2 : ¬ nI 8 < nI m := h2
  rw [zi_lt m1 (by omega)] at h1
  rw [zi_lt (by omega) m1] at h2
  exact ⟨m, by omega, by omega, m2⟩
theorem c_append {h : Hp} {T : List Int32} (q : tpT h T) (w : Int64) (n : Int32) : ∃ h1, f_X3_append 9 w n h = some (if (typ T w n).1 = true then 1 else 0, h1) ∧ tpT h1 (typ T w n).2 ∧ cf tyF h h1 ∧ nz h h1 := by
  have o := q.1.1
  have e3 : zI h 403 9 = nI T.length := q.2.2.2.2.1
  unfold typ f_X3_append
  by_cases c1 : n < 1
  · rw [if_pos c1, if_pos c1]
    exact ⟨h, rfl, q, cf.rf h, rfl⟩
  rw [if_neg c1, if_neg c1]
  by_cases c2 : 8 < n
  · rw [if_pos c2, if_pos c2]
    exact ⟨h, rfl, q, cf.rf h, rfl⟩
  rw [if_neg c2, if_neg c2, ck_yes o, e3]
  by_cases c3 : nI T.length + n ≤ 300
  · rw [if_pos c3, if_pos c3]
    obtain ⟨m, m1, m2, m3⟩ := int18 c1 c2
    have tl := q.2.2.2.2.2.1.1
    rw [m3, zi_add] at c3
    have c3 : nI (T.length + m) ≤ nI 300 := c3
    rw [zi_le (by omega) (by omega)] at c3
    obtain ⟨x1, x2⟩ := c_app28 (w := w) q c3 m2 m 0 fz (by omega) (fz_big (by omega)) (fun j hj => by omega)
    rw [m3, zi_nat (by omega)]
    cases c4 : okA w m 0 with
    | true =>
      obtain ⟨h1, y1, y2, y3, y4⟩ := x1 c4
      rw [if_pos rfl]
      exact ⟨h1, y1, y2, y3, y4⟩
    | false =>
      rw [if_neg (show ¬ false = true from fun z => by cases z)]
      exact ⟨h, x2 c4, q, cf.rf h, rfl⟩
  · rw [if_neg c3, if_neg c3]
    exact ⟨h, rfl, q, cf.rf h, rfl⟩
/-! A LIST OF PROGRAMS GROWS -/
theorem cf_pCq {S : Nat → Nat → Prop} {h : Hp} {src sp dst dp n : Nat} (hs : ∀ j, S dst j) : cf S h (pCq h src sp dst dp n) := by
  refine ⟨Nat.le_refl _, fun _ _ => ⟨rfl, rfl⟩, fun b j _ hb => ⟨rfl, rfl, rfl, rfl, ?_, rfl⟩⟩
  have : b ≠ dst := fun z => hb (by rw [z]; exact hs j)
  show va_up (zQ h) dst _ b j = _
  rw [va_up_nq this]
/-- the rows of the shelves -/
def vsX (h : Hp) (vs : Nat → List Prg) : Prop := (∀ p, p < 8 → vs p = [] → zR h 1 (17 + 2 * p) = 2) ∧ (∀ p q, p < 8 → q < 8 → p ≠ q → vs p ≠ [] → zR h 1 (17 + 2 * p) ≠ zR h 1 (17 + 2 * q)) ∧ ∀ p, p < 8 → vs p ≠ [] → zL h (zR h 1 (17 + 2 * p)) ≤ 1000
theorem vsX.on {h h1 : Hp} {own : Nat → Nat} {vs : Nat → List Prg} {S : Nat → Nat → Prop} (q : vsX h vs) (v : vsC h own vs) (f : cf S h h1) (hS : ∀ p, p < 8 → ¬ S (17 + 2 * p) 1) : vsX h1 vs := by
  have e : ∀ p, p < 8 → zR h1 1 (17 + 2 * p) = zR h 1 (17 + 2 * p) := fun p hp => f.R (v.2 p hp).2.2.2.1 (hS p hp)
  refine ⟨fun p hp z => by rw [e p hp]; exact q.1 p hp z, fun p r hp hr ne z => by rw [e p hp, e r hr]; exact q.2.1 p r hp hr ne z, fun p hp z => ?_⟩
  rw [e p hp]
  obtain ⟨-, -, -, -, -, d, b6, b7, -⟩ := v.2 p hp
  rw [b6, f.L (b7 z).1, ← b6]
  exact q.2.2 p hp z
theorem prC.on2 {h h1 : Hp} {own own1 : Nat → Nat} {S : Nat → Nat → Prop} {p : Nat} {P : Prg} (q : prC h own p P) (f : cf S h h1) (e : exO own own1 h) (hS : ∀ a j, own a = 102 → (zT h a = 5 ∨ zT h a = 22) → ¬ S a j) : prC h1 own1 p P := by
  obtain ⟨⟨a1, a2, a3⟩, c, ⟨b1, b2, b3, b4⟩, d⟩ := q
  refine ⟨⟨f.O a1, (e p a1.2.1).trans a2, (f.I a1 (hS p 500 a2 (Or.inl a1.2.2))).trans a3⟩, c, ⟨(f.R a1 (hS p 501 a2 (Or.inl a1.2.2))).trans b1, f.O b2, (e c b2.2.1).trans b3, (f.L b2).trans b4⟩, fun j hj => ?_⟩
  obtain ⟨d1, d2, d3, d4, d5, d6, d7⟩ := d j hj
  have z : ∀ i, zE h1 c i = zE h c i := fun i => f.E b2 (hS c i b3 (Or.inr b2.2.2))
  rw [z, z, z, z, z, z, z]
  exact ⟨d1, d2, d3, d4, d5, d6, d7⟩
theorem shC.off2 {h h1 : Hp} {own own1 : Nat → Nat} {S : Nat → Nat → Prop} {s v : Nat} {u : Nat → Nat} {q : Shd} (k : shC h own s u v q) (w : owS own) (hs : s < 4) (f : cf S h h1) (e : exO own own1 h) (hS : ∀ a j, own a / 10 = s ∨ (own a = 102 ∧ (zT h a = 5 ∨ zT h a = 22)) → ¬ S a j) : shC h1 own1 s u v q := by
  obtain ⟨k1, k2, k3, k4, ⟨kN, k5⟩, k6⟩ := k
  have own8 : ∀ o, o < 146 → ¬ (5 ≤ o ∧ o ≤ 7) → ¬ (9 ≤ o ∧ o ≤ 17 ∧ o % 2 = 1) → ∀ j, ¬ S (shA s + o) j := fun o h1 h2 h3 j => hS _ _ (Or.inl (by rw [ow_at w hs h1 h2 h3]; omega))
  refine ⟨k1.on f (fun j _ _ => own8 0 (by omega) (by omega) (by omega) j) (fun a j ha => ?_), k2.on k1.1.1 f (fun j _ _ => own8 0 (by omega) (by omega) (by omega) j), fun r hr => (k3 r hr).on f e (fun j _ _ => own8 _ (by omega) (by omega) (by omega) j) (fun a j ha => hS a j (Or.inl (by omega))), fun n hn => (k4 n hn).on f (fun a j h1 h2 _ => ?_), ⟨kN, fun n hn => ?_⟩, k6.on k1.2.2.2.2 f e (fun j => own8 4 (by omega) (by omega) (by omega) j) (fun a j ha => hS a j (Or.inl (by omega)))⟩
  · rcases ha with ha | ha <;> rw [ha]
    · exact own8 1 (by omega) (by omega) (by omega) j
    · exact own8 2 (by omega) (by omega) (by omega) j
  · have : a = shA s + (a - shA s) := by omega
    rw [this]
    exact own8 _ (by omega) (by omega) (by omega) j
  · have o := (k4 n (by omega)).1.1.1
    rw [f.R o (own8 _ (by omega) (by omega) (by omega) _)]
    exact (k5 n hn).on2 f e (fun a j ha hb => hS a j (Or.inr ⟨ha, hb⟩))
/-- a list's row, with room for one more -/
def rowC (h : Hp) (l d n : Nat) : Prop := isO h l 0 ∧ zR h 1 l = d ∧ isO h d 29 ∧ (n < zL h d ∧ zL h d ≤ 1000) ∧ l ≠ d
theorem shr1 : ∀ x : Nat, x < 600 → nI x >>> ((1 : Int32) &&& 31) = nI (x / 2) := by decide +kernel
/-- the first row -/
theorem c_grow0 {h : Hp} {l : Nat} (o : isO h l 0) (e1 : zR h 1 l = 2) (e2 : zI h 2 l = nI 0) (h8 : 672 ≤ zn h) (hl : l < 672) : ∃ h1, f_Jx4a65c_grow_d5877 l h = some (zn h, h1) ∧ rowC h1 l (zn h) 0 ∧ cf (fun a j => a = l ∧ j = 1) h h1 ∧ zn h1 = zn h + 1 ∧ zs h1 ≤ zs h + 800 := by
  have f1 : cf (fun a j => a = l ∧ j = 1) h (pN h 29 10) := cf_pN h 29 10
  have f2 : cf (fun a j => a = l ∧ j = 1) h (pR (pN h 29 10) 1 l (zn h)) := f1.tr (cf_pR ⟨rfl, rfl⟩)
  refine ⟨pR (pN h 29 10) 1 l (zn h), ?_, ⟨f2.O o, ?_, ⟨by omega, Nat.lt_succ_self _, va_up_at⟩, ?_, by omega⟩, f2, rfl, ?_⟩
  · unfold f_Jx4a65c_grow_d5877 f_Jx4a65c_grow_92f84
    rw [ck_yes o, ck_yes o, e1, ck_yes (Or.inl rfl), e2, show zLx h 2 = 0 from rfl]
    unfold bh
    dsimp only
    rw [if_neg (by decide), ck_yes (Or.inl rfl), ck_yes (Or.inl rfl), if_pos rfl, ck_yes (by omega), ck_yes (by decide)]
    rfl
  · show up2 _ _ _ _ _ _ = _
    exact if_pos ⟨rfl, rfl⟩
  · show 0 < va_up _ _ _ _ ∧ va_up _ _ _ _ ≤ _
    rw [va_up_at]; omega
  · show zs h + 10 ≤ _
    omega
/-- a longer row -/
theorem c_grow1 {h : Hp} {l d n : Nat} (o : isO h l 0) (e1 : zR h 1 l = d) (e2 : zI h 2 l = nI n) (od : isO h d 29) (ld : zL h d = n) (n0 : 0 < n) (n5 : n ≤ 550) (hq : ∀ i, i < n → isO h (zQ h d i) 5) (h8 : 672 ≤ zn h) (hl : l < 672) : ∃ h1, f_Jx4a65c_grow_d5877 l h = some (zn h, h1) ∧ rowC h1 l (zn h) n ∧ (∀ i, i < n → zQ h1 (zn h) i = zQ h d i) ∧ cf (fun a j => a = l ∧ j = 1) h h1 ∧ zn h1 = zn h + 1 ∧ zs h1 ≤ zs h + 850 := by
  obtain ⟨m, m1, m2, m3⟩ : ∃ m : Nat, 1 ≤ m ∧ m ≤ 275 ∧ nI n + (if (1 : Int32) < nI n >>> ((1 : Int32) &&& 31) then nI n >>> ((1 : Int32) &&& 31) else 1) = nI (n + m) := by
    rw [shr1 n (by omega)]
    by_cases c : (1 : Int32) < nI (n / 2)
    · rw [if_pos c]
      have c : nI 1 < nI (n / 2) := c
      rw [zi_lt (by omega) (by omega)] at c
      exact ⟨n / 2, by omega, by omega, zi_add _ _⟩
    · rw [if_neg c]
      exact ⟨1, by omega, by omega, zi_one n⟩
  have s1 : nI n + 1 - nI n = (1 : Int32) := by
    rw [zi_one, zi_sub (by omega), Nat.add_sub_cancel_left]; rfl
  have d2 : d ≠ 2 := by have := od.1; omega
  have dn : d ≠ zn h := by have := od.2.1; omega
  have lx : zLx h d = n := by unfold zLx; rw [if_neg d2]; exact ld
  have fN : cf (fun a j => a = l ∧ j = 1) h (pN h 29 (n + m)) := cf_pN h 29 (n + m)
  have fC : cf (fun a j => a = l ∧ j = 1) h (pCq (pN h 29 (n + m)) d 0 (zn h) 0 n) := fN.tr2 (cf_pCq (S := fun a _ => a = zn h) (fun _ => rfl)) (fun a j ha z => by omega)
  have odN := fN.O od
  have ldN := (fN.L od).trans ld
  have lxN : zLx (pN h 29 (n + m)) d = n := by unfold zLx; rw [if_neg d2]; exact ldN
  have onN : isO (pN h 29 (n + m)) (zn h) 29 := ⟨by omega, Nat.lt_succ_self _, va_up_at⟩
  have lnN : zL (pN h 29 (n + m)) (zn h) = n + m := va_up_at
  have qN : ∀ i, zQ (pN h 29 (n + m)) d i = zQ h d i := fun i => fN.Q od (fun z => by have := od.2.2; rw [z.1, o.2.2] at this; omega)
  have g1 : f_J8_newLength_cabcc (nI n) 1 (nI n >>> ((1 : Int32) &&& 31)) h = some (nI (n + m), h) := by
    unfold f_J8_newLength_cabcc bh
    dsimp only
    rw [m3, if_neg (show ¬ nI (n + m) ≤ (0 : Int32) from fun z => by have z : nI (n + m) ≤ nI 0 := z; rw [zi_le (by omega) (by omega)] at z; omega), if_neg (show ¬ (2147483639 : Int32) < nI (n + m) from fun z => by have z : nI 2147483639 < nI (n + m) := z; rw [zi_lt (by omega) (by omega)] at z; omega)]
  have le : ¬ nI (n + m) < nI n := fun z => by rw [zi_lt (by omega) (by omega)] at z; omega
  have z0 : (0 : Int32).toNatClampNeg = 0 := by decide
  have g2 : f_J7_copyOf_6403c d (nI (n + m)) 3 h = some (zn h, pCq (pN h 29 (n + m)) d 0 (zn h) 0 n) := by
    unfold f_J7_copyOf_6403c
    rw [ck_yes rfl, ck_yes rfl, ck_yes (by omega), ck_yes ⟨zi_neg (by omega), by rw [zi_nat (by omega)]; omega⟩, zi_nat (by omega)]
    unfold bh
    dsimp only
    rw [ck_yes (Or.inr odN), ck_yes odN, ck_yes onN, lxN, if_neg le, zi_nat (by omega), z0, ldN, lnN]
    rw [ck_yes ⟨⟨by decide, by decide, zi_neg (by omega)⟩, by omega, by omega⟩]
    rw [ck_yes (fun i hi => Or.inr (by rw [Nat.zero_add, qN]; exact fN.O (hq i hi)))]
  have f2 : cf (fun a j => a = l ∧ j = 1) h (pR (pCq (pN h 29 (n + m)) d 0 (zn h) 0 n) 1 l (zn h)) := fC.tr (cf_pR ⟨rfl, rfl⟩)
  refine ⟨pR (pCq (pN h 29 (n + m)) d 0 (zn h) 0 n) 1 l (zn h), ?_, ⟨f2.O o, ?_, onN, ?_, by omega⟩, fun i hi => ?_, f2, rfl, ?_⟩
  · have p0 : 0 < nI n := (zi_lt (a := 0) (by omega) (by omega)).mpr n0
    unfold f_Jx4a65c_grow_d5877 f_Jx4a65c_grow_92f84
    rw [ck_yes o, ck_yes o, e1, ck_yes (Or.inr od), e2, lx]
    unfold bh
    dsimp only
    rw [if_pos p0]
    unfold f_Jx4a65c_grow_92f84_20
    rw [s1, g1, bind_some9]
    dsimp only
    rw [ck_yes o, e1]
    unfold f_J7_copyOf_1904c
    rw [ck_yes od, g2, bind_some9, bind_some9]
    dsimp only
    rw [ck_yes (fC.O o)]
    rfl
  · show up2 _ _ _ _ _ _ = _
    exact if_pos ⟨rfl, rfl⟩
  · show n < va_up _ _ _ _ ∧ va_up _ _ _ _ ≤ _
    rw [va_up_at]; omega
  · show va_up (zQ (pN h 29 (n + m))) (zn h) _ (zn h) i = _
    rw [va_up_at]
    unfold va_cpy
    rw [if_pos (by omega), Nat.zero_add, Nat.sub_zero]
    exact qN i
  · show zs h + (n + m) ≤ _
    omega
/-- one more -/
theorem c_add1 {h : Hp} {l d n g : Nat} (r : rowC h l d n) (n5 : n < 2147483648) (og : isO h g 5) : (ck (isO h d 29) (ck (inR (nI n) (zL h d)) (ck (isO h g 5) (bh (pQ h d (nI n).toNatClampNeg g) (fun h14 => ck (isO h14 l 0) (bh (pI h14 2 l (nI n + (1 : Int32))) (fun h16 => some h16))))))) = some (pI (pQ h d n g) 2 l (nI (n + 1))) := by
  obtain ⟨o, e1, od, ⟨hn, -⟩, -⟩ := r
  rw [ck_yes od, ck_yes (zi_in hn n5), ck_yes og, zi_nat n5, zi_one]
  unfold bh
  dsimp only
  rw [ck_yes (show isO (pQ h d n g) l 0 from o)]
/-- the row of a list that takes one more -/
theorem c_addG {h : Hp} {own : Nat → Nat} {vs : Nat → List Prg} {p g : Nat} (v : vsC h own vs) (X : vsX h vs) (hp : p < 8) (hl : (vs p).length ≤ 550) (og : isO h g 5) (h8 : 672 ≤ zn h) : ∃ k d, f_Jx4a65c_add_9ea2d (17 + 2 * p) g h = some (1, pI (pQ k d (vs p).length g) 2 (17 + 2 * p) (nI ((vs p).length + 1))) ∧ rowC k (17 + 2 * p) d (vs p).length ∧ (∀ i, i < (vs p).length → zQ k d i = zQ h (zR h 1 (17 + 2 * p)) i) ∧ cf (fun a j => a = 17 + 2 * p ∧ (j = 0 ∨ j = 1)) h k ∧ zn k ≤ zn h + 1 ∧ zs k ≤ zs h + 850 ∧ (d = zn h ∨ (d = zR h 1 (17 + 2 * p) ∧ vs p ≠ [])) := by
  obtain ⟨-, -, -, b4, b4e, d, b5, b6, b7⟩ := v.2 p hp
  have fA : cf (fun a j => a = 17 + 2 * p ∧ (j = 0 ∨ j = 1)) h (pI h 0 (17 + 2 * p) (zI h 0 (17 + 2 * p) + 1)) := cf_pI ⟨rfl, Or.inl rfl⟩
  have e2 : ∀ x : Int32, zI (pI h 0 (17 + 2 * p) x) 2 (17 + 2 * p) = nI (vs p).length := fun x => by rw [zI_pI, if_neg (by omega)]; exact b4e
  generalize hA : pI h 0 (17 + 2 * p) (zI h 0 (17 + 2 * p) + 1) = m at fA
  have e2 : zI m 2 (17 + 2 * p) = nI (vs p).length := by rw [← hA]; exact e2 _
  have rA : zR m 1 (17 + 2 * p) = d := by rw [← hA]; exact b5
  have nA : zn m = zn h := by rw [← hA]; rfl
  have sA : zs m = zs h := by rw [← hA]; rfl
  have oA : isO m (17 + 2 * p) 0 := fA.O b4
  have ogA : isO m g 5 := fA.O og
  have start : ∀ k : Hp, f_Jx4a65c_add_72be8 (17 + 2 * p) g d (nI (vs p).length) m = some k → f_Jx4a65c_add_9ea2d (17 + 2 * p) g h = some (1, k) := fun k hk => by
    unfold f_Jx4a65c_add_9ea2d bh
    rw [ck_yes b4]
    dsimp only
    rw [hA, rA, e2, hk, bind_some9]
  by_cases c : vs p = []
  · have d2 : d = 2 := b5.symm.trans (X.1 p hp c)
    have l0 : (vs p).length = 0 := by rw [c]; rfl
    rw [l0] at e2 start ⊢
    obtain ⟨k, g1, g2, g3, g4, g5⟩ := c_grow0 oA (rA.trans d2) e2 (by omega) (by omega)
    refine ⟨k, zn m, start _ ?_, g2, fun i hi => by omega, fA.tr (g3.mono (fun a j _ z => ⟨z.1, Or.inr z.2⟩)), by omega, by omega, Or.inl nA⟩
    unfold f_Jx4a65c_add_72be8
    rw [ck_yes (Or.inl d2), d2, show zLx m 2 = 0 from rfl, if_pos rfl, ck_yes oA, g1, bind_some9]
    dsimp only
    exact c_add1 g2 (by omega) (g3.O ogA)
  · obtain ⟨c1, c2, c3⟩ := b6 c
    have d2 : d ≠ 2 := by have := c1.1; omega
    have lx : zLx m d = zL h d := by unfold zLx; rw [if_neg d2]; exact fA.L c1
    have cap : zL h d ≤ 1000 := by rw [← b5]; exact X.2.2 p hp c
    have ne : 17 + 2 * p ≠ d := fun z => by have := c1.2.2; rw [← z, b4.2.2] at this; omega
    by_cases c4 : (vs p).length = zL h d
    · have hq : ∀ i, i < (vs p).length → isO m (zQ m d i) 5 := fun i hi => by
        rw [fA.Q c1 (fun z => ne z.1.symm)]
        exact fA.O (b7 i _ (List.getElem?_eq_getElem hi)).1.1
      obtain ⟨k, g1, g2, g3, g4, g5, g6⟩ := c_grow1 oA rA e2 (fA.O c1) ((fA.L c1).trans c4.symm) (Nat.pos_of_ne_zero (fun z => c (List.length_eq_zero_iff.mp z))) hl hq (by omega) (by omega)
      refine ⟨k, zn m, start _ ?_, g2, fun i hi => (g3 i hi).trans (by rw [b5]; exact fA.Q c1 (fun z => ne z.1.symm)), fA.tr (g4.mono (fun a j _ z => ⟨z.1, Or.inr z.2⟩)), by omega, by omega, Or.inl nA⟩
      unfold f_Jx4a65c_add_72be8
      rw [ck_yes (Or.inr (fA.O c1)), lx, ← c4, if_pos rfl, ck_yes oA, g1, bind_some9]
      dsimp only
      exact c_add1 g2 (by omega) (g4.O ogA)
    · have lt : (vs p).length < zL m d := by rw [fA.L c1]; omega
      have g2 : rowC m (17 + 2 * p) d (vs p).length := ⟨oA, rA, fA.O c1, ⟨lt, by rw [fA.L c1]; exact cap⟩, ne⟩
      refine ⟨m, d, start _ ?_, g2, fun i hi => by rw [b5]; exact fA.Q c1 (fun z => ne z.1.symm), fA, by omega, by omega, Or.inr ⟨b5.symm, c⟩⟩
      have nl : ¬ nI (vs p).length = nI (zL h d) := fun z => c4 ((zi_eq (by omega) (by omega)).mp z)
      unfold f_Jx4a65c_add_72be8
      rw [ck_yes (Or.inr (fA.O c1)), lx, if_neg nl]
      exact c_add1 g2 (by omega) ogA
/-- a version comes -/
theorem c_addP {h : Hp} {own : Nat → Nat} {vs : Nat → List Prg} {p g : Nat} {P : Prg} (v : vsC h own vs) (X : vsX h vs) (hp : p < 8) (hl : (vs p).length ≤ 550) (pg : prC h own g P) (fre : ∀ a, zn h ≤ a → own a = 102) (w : owS own) (h8 : 672 ≤ zn h) : ∃ h1, f_Jx4a65c_add_9ea2d (17 + 2 * p) g h = some (1, h1) ∧ vsC h1 own (upf vs p (vs p ++ [P])) ∧ vsX h1 (upf vs p (vs p ++ [P])) ∧ cf (fun a j => (a = 17 + 2 * p ∧ j ≤ 2) ∨ (own a = 102 ∧ zT h a = 29)) h h1 ∧ zn h1 ≤ zn h + 1 ∧ zs h1 ≤ zs h + 850 := by
  obtain ⟨k, d, x1, x2, x3, x4, x5, x6, x7⟩ := c_addG v X hp hl pg.1.1 h8
  obtain ⟨r1, r2, r3, ⟨r4, r5⟩, r6⟩ := x2
  have od : own d = 102 ∧ (d < zn h → zT h d = 29) := by
    rcases x7 with z | ⟨z, ne⟩
    · exact ⟨fre d (by omega), fun y => by omega⟩
    · obtain ⟨-, -, -, -, -, e, b5, b6, -⟩ := v.2 p hp
      obtain ⟨c1, c2, -⟩ := b6 ne
      rw [z, b5]
      exact ⟨c2, fun _ => c1.2.2⟩
  have f4 : cf (fun a j => (a = 17 + 2 * p ∧ j ≤ 2) ∨ (own a = 102 ∧ zT h a = 29)) h k := x4.mono (fun a j _ z => Or.inl (by omega))
  have fQ : cf (fun a j => (a = 17 + 2 * p ∧ j ≤ 2) ∨ a = d) k (pI (pQ k d (vs p).length g) 2 (17 + 2 * p) (nI ((vs p).length + 1))) := (cf_pQ (S := fun a j => (a = 17 + 2 * p ∧ j ≤ 2) ∨ a = d) (Or.inr rfl)).tr (cf_pI (Or.inl ⟨rfl, Nat.le_refl _⟩))
  have f5 : cf (fun a j => (a = 17 + 2 * p ∧ j ≤ 2) ∨ (own a = 102 ∧ zT h a = 29)) h (pI (pQ k d (vs p).length g) 2 (17 + 2 * p) (nI ((vs p).length + 1))) := f4.tr2 fQ (fun a j ha z => by
    rcases z with z | z
    · exact Or.inl z
    · rw [z] at ha ⊢
      exact Or.inr ⟨od.1, od.2 ha⟩)
  have pk : ∀ {a : Nat} {Q : Prg}, prC h own a Q → prC (pI (pQ k d (vs p).length g) 2 (17 + 2 * p) (nI ((vs p).length + 1))) own a Q := fun q => q.on2 f5 (exO.rf _ _) (fun a j ha hb z => by
    rcases z with z | z
    · rw [z.1, w _ (by omega)] at ha
      unfold ow0 at ha
      rw [if_pos (by omega)] at ha
      omega
    · omega)
  have rr : ∀ q, q < 8 → q ≠ p → zR (pI (pQ k d (vs p).length g) 2 (17 + 2 * p) (nI ((vs p).length + 1))) 1 (17 + 2 * q) = zR h 1 (17 + 2 * q) := fun q hq ne => x4.R (v.2 q hq).2.2.2.1 (by omega)
  have no : ∀ (a : Nat) (j : Nat), a < 32 → a ≠ 17 + 2 * p → ¬ ((a = 17 + 2 * p ∧ j ≤ 2) ∨ (own a = 102 ∧ zT h a = 29)) := fun a j ha hb z => by
    rcases z with z | z
    · exact hb z.1
    · have := z.1
      rw [w _ (by omega)] at this
      unfold ow0 at this
      rw [if_pos ha] at this
      omega
  have dq : ∀ q, q < 8 → q ≠ p → vs q ≠ [] → zR h 1 (17 + 2 * q) ≠ d := fun q hq ne nz z => by
    rcases x7 with y | ⟨y, -⟩
    · obtain ⟨-, -, -, -, -, e, b5, b6, -⟩ := v.2 q hq
      have := (b6 nz).1.2.1
      omega
    · exact X.2.1 q p hq hp ne nz (z.trans y)
  refine ⟨_, x1, ⟨⟨f5.O v.1.1, (f5.L v.1.1).trans v.1.2⟩, fun q hq => ?_⟩, ⟨fun q hq z => ?_, fun q r hq hr ne z => ?_, fun q hq z => ?_⟩, f5, x5, x6⟩
  · obtain ⟨b1, b2, b3, b4, b5, e, b6, b7, b8⟩ := v.2 q hq
    by_cases c : q = p
    · subst c
      rw [show upf vs q (vs q ++ [P]) q = vs q ++ [P] from if_pos rfl]
      refine ⟨(f5.Q v.1.1 (no _ _ (by omega) (by omega))).trans b1, f5.O b2, (f5.R b2 (no _ _ (by omega) (by omega))).trans b3, f5.O b4, ?_, d, r2, fun _ => ⟨r3, od.1, ?_⟩, fun i Q hi => ?_⟩
      · rw [zI_pI, if_pos ⟨rfl, rfl⟩, List.length_append, List.length_singleton]
      · rw [List.length_append, List.length_singleton]
        exact r4
      · by_cases ci : i < (vs q).length
        · rw [List.getElem?_append_left ci] at hi
          have : zQ (pI (pQ k d (vs q).length g) 2 (17 + 2 * q) (nI ((vs q).length + 1))) d i = zQ h e i := by
            show up2 (zQ k) _ _ _ _ _ = _
            rw [up2_nq (by omega), x3 i ci, b6]
          rw [this]
          exact pk (b8 i Q hi)
        · have e2 : i = (vs q).length := by
            have := (List.getElem?_eq_some_iff.mp hi).1
            rw [List.length_append, List.length_singleton] at this
            omega
          rw [e2, List.getElem?_append_right (Nat.le_refl _), Nat.sub_self] at hi
          have hi : some P = some Q := hi
          cases hi
          have : zQ (pI (pQ k d (vs q).length g) 2 (17 + 2 * q) (nI ((vs q).length + 1))) d i = g := by
            show up2 (zQ k) _ _ _ _ _ = _
            exact if_pos ⟨rfl, e2⟩
          rw [this]
          exact pk pg
    · rw [show upf vs p (vs p ++ [P]) q = vs q from if_neg c]
      refine ⟨(f5.Q v.1.1 (no _ _ (by omega) (by omega))).trans b1, f5.O b2, (f5.R b2 (no _ _ (by omega) (by omega))).trans b3, f5.O b4, (f5.I b4 (no _ _ (by omega) (by omega))).trans b5, e, (rr q hq c).trans b6, fun z => ?_, fun i Q hi => ?_⟩
      · obtain ⟨c1, c2, c3⟩ := b7 z
        exact ⟨f5.O c1, c2, by rw [f5.L c1]; exact c3⟩
      · have ne : vs q ≠ [] := fun z => by rw [z] at hi; simp at hi
        obtain ⟨c1, c2, c3⟩ := b7 ne
        have : zQ (pI (pQ k d (vs p).length g) 2 (17 + 2 * p) (nI ((vs p).length + 1))) e i = zQ h e i := by
          show up2 (zQ k) _ _ _ _ _ = _
          rw [up2_nq (fun z => dq q hq c ne (b6.trans z.1))]
          exact x4.Q c1 (fun z => by have := c1.2.2; rw [z.1, (v.2 p hp).2.2.2.1.2.2] at this; omega)
        rw [this]
        exact pk (b8 i Q hi)
  · by_cases c : q = p
    · rw [c, show upf vs p (vs p ++ [P]) p = vs p ++ [P] from if_pos rfl] at z
      simp at z
    · rw [show upf vs p (vs p ++ [P]) q = vs q from if_neg c] at z
      exact (rr q hq c).trans (X.1 q hq z)
  · by_cases c : q = p
    · rw [c, rr r hr (by omega), show zR (pI (pQ k d (vs p).length g) 2 (17 + 2 * p) (nI ((vs p).length + 1))) 1 (17 + 2 * p) = d from r2]
      intro y
      by_cases cr : vs r = []
      · rw [X.1 r hr cr] at y
        have := r3.1
        omega
      · exact dq r hr (by omega) cr y.symm
    · rw [show upf vs p (vs p ++ [P]) q = vs q from if_neg c] at z
      rw [rr q hq c]
      by_cases cr : r = p
      · rw [cr, show zR (pI (pQ k d (vs p).length g) 2 (17 + 2 * p) (nI ((vs p).length + 1))) 1 (17 + 2 * p) = d from r2]
        exact dq q hq c z
      · rw [rr r hr cr]
        exact X.2.1 q r hq hr ne z
  · by_cases c : q = p
    · rw [c, show zR (pI (pQ k d (vs p).length g) 2 (17 + 2 * p) (nI ((vs p).length + 1))) 1 (17 + 2 * p) = d from r2]
      exact r5
    · rw [show upf vs p (vs p ++ [P]) q = vs q from if_neg c] at z
      rw [rr q hq c]
      obtain ⟨-, -, -, -, -, e, b6, b7, -⟩ := v.2 q hq
      rw [b6, f5.L (b7 z).1, ← b6]
      exact X.2.2 q hq z
/-! THE CLASS, WHOLE -/
def CL (vs : Nat → List Prg) (now : Int32) (h : Hp) (own : Nat → Nat) (u : Nat → Nat → Nat) (v : Nat → Nat) (W : Wld) (T : List Int32) (fa : Int32) (tk : Nat) : Prop := CW vs now h own u v W ∧ tpT h T ∧ zI h 405 9 = fa ∧ zI h 1104 8 = nI tk ∧ vsX h vs
def acL (h : Hp) (own : Nat → Nat) (u : Nat → Nat → Nat) (v : Nat → Nat) (h1 : Hp) (own1 : Nat → Nat) (u1 : Nat → Nat → Nat) (v1 : Nat → Nat) : Prop := exO own own1 h ∧ cf (fun a _ => own a ≠ 101) h h1 ∧ zs h1 + 1024 * usm u + 96 * sum4 v ≤ zs h + 1024 * usm u1 + 96 * sum4 v1 + 1500 ∧ zn h1 + usm u + 3 * sum4 v ≤ zn h + usm u1 + 3 * sum4 v1 + 10
theorem acL.rf (h : Hp) (own : Nat → Nat) (u : Nat → Nat → Nat) (v : Nat → Nat) : acL h own u v h own u v := ⟨exO.rf own h, cf.rf h, by omega, by omega⟩
theorem ow100 {own : Nat → Nat} (w : owS own) {a : Nat} (ha : a < 32) : own a = 100 := by
  rw [w a (by omega)]
  unfold ow0
  rw [if_pos ha]
theorem CL.act {vs : Nat → List Prg} {now now1 : Int32} {h h1 : Hp} {own own1 : Nat → Nat} {u u1 : Nat → Nat → Nat} {v v1 : Nat → Nat} {W W1 : Wld} {T : List Int32} {fa : Int32} {tk : Nat} (C : CL vs now h own u v W T fa tk) (R : CW vs now1 h1 own1 u1 v1 W1) (a : acT h own u v h1 own1 u1 v1) : CL vs now1 h1 own1 u1 v1 W1 T fa tk ∧ acL h own u v h1 own1 u1 v1 := by
  obtain ⟨c1, c2, c3, c4, c5⟩ := C
  obtain ⟨a1, a2, a3, a4⟩ := a
  have w := c1.1.1
  have no : ∀ a j, a < 32 → ¬ (a = 14 ∧ j = 100) → ¬ (own a < 40 ∨ (a = 14 ∧ j = 100)) := fun a j ha hb z => by
    rw [ow100 w ha] at z; omega
  refine ⟨⟨R, c2.on a2 (fun j _ _ => no _ _ (by omega) (by omega)) (fun j => no _ _ (by omega) (by omega)), (a2.I c2.1.1 (no _ _ (by omega) (by omega))).trans c3, (a2.I c1.2.1.1.1 (no _ _ (by omega) (by omega))).trans c4, c5.on c1.1.2.2.1 a2 (fun p hp => no _ _ (by omega) (by omega))⟩, a1, a2.mono (fun a j ha z => ?_), by omega, by omega⟩
  rcases z with z | z
  · omega
  · rw [z.1, ow100 w (by omega)]; omega
theorem CL.actW {vs : Nat → List Prg} {now : Int32} {h h1 : Hp} {own own1 : Nat → Nat} {u u1 : Nat → Nat → Nat} {v v1 : Nat → Nat} {W W1 : Wld} {T : List Int32} {fa : Int32} {tk : Nat} (C : CL vs now h own u v W T fa tk) (R : CW vs now h1 own1 u1 v1 W1) (a : acW h own u v h1 own1 u1 v1) : CL vs now h1 own1 u1 v1 W1 T fa tk ∧ acL h own u v h1 own1 u1 v1 := C.act R a.T
/-- what a call of the program itself leaves -/
def rC {α : Type} (vs : Nat → List Prg) (now : Int32) (h : Hp) (own : Nat → Nat) (u : Nat → Nat → Nat) (v : Nat → Nat) (W1 : Wld) (T : List Int32) (fa : Int32) (tk : Nat) (r : Hp → α) (x : Option α) : Prop := ∃ h1 own1 u1 v1, x = some (r h1) ∧ CL vs now h1 own1 u1 v1 W1 T fa tk ∧ acL h own u v h1 own1 u1 v1
section Tape
variable {vs : Nat → List Prg} {now : Int32} {h : Hp} {own : Nat → Nat} {u : Nat → Nat → Nat} {v : Nat → Nat} {W : Wld} {T : List Int32} {fa : Int32} {tk : Nat}
/-- cells that no shard and no version reads -/
theorem CW.lowT {h1 : Hp} {S : Nat → Nat → Prop} (R : CW vs now h own u v W) (f : cf S h h1) (hS : ∀ a j, S a j → a = 9 ∨ a = 10 ∨ a = 11 ∨ a = 12 ∨ (a = 8 ∧ j = 1104)) : CW vs now h1 own u v W := by
  obtain ⟨⟨w, hz, vc, ck⟩, tp, sh⟩ := R
  refine ⟨⟨w, Nat.le_trans hz f.1, ?_, f.O ck.1, (f.I ck.1 (fun z => by have := hS _ _ z; omega)).trans ck.2⟩, tp.on f (fun j _ _ z => by have := hS _ _ z; omega) (fun j z => by have := hS _ _ z; omega), fun s hs => (sh s hs).off w hs f (exO.rf _ _) (fun a j ha z => by
    have := hS _ _ z
    rw [ow100 w (by omega)] at ha
    omega)⟩
  obtain ⟨⟨a1, a2⟩, b⟩ := vc
  refine ⟨⟨f.O a1, (f.L a1).trans a2⟩, fun p hp => ?_⟩
  obtain ⟨b1, b2, b3, b4, b5, d, b6, b7, b8⟩ := b p hp
  have n102 : ∀ a j, own a = 102 → ¬ S a j := fun a j ha z => by
    have := hS _ _ z
    rw [ow100 w (by omega)] at ha
    omega
  refine ⟨(f.Q a1 (fun z => by have := hS _ _ z; omega)).trans b1, f.O b2, (f.R b2 (fun z => by have := hS _ _ z; omega)).trans b3, f.O b4, (f.I b4 (fun z => by have := hS _ _ z; omega)).trans b5, d, (f.R b4 (fun z => by have := hS _ _ z; omega)).trans b6, fun z => ?_, fun k P hk => ?_⟩
  · obtain ⟨c1, c2, c3⟩ := b7 z
    exact ⟨f.O c1, c2, by rw [f.L c1]; exact c3⟩
  · have ne : vs p ≠ [] := fun z => by rw [z] at hk; simp at hk
    obtain ⟨c1, c2, c3⟩ := b7 ne
    rw [f.Q c1 (n102 _ _ c2)]
    exact (b8 k P hk).on f (exO.rf _ _) n102
theorem c_type (C : CL vs now h own u v W T fa tk) (w : Int64) (n : Int32) : rC vs now h own u v W (typ T w n).2 fa tk (fun h1 => ((if (typ T w n).1 = true then 1 else 0 : Int32), h1)) (f_X10_type 8 w n h) := by
  obtain ⟨c1, c2, c3, c4, c5⟩ := C
  obtain ⟨⟨o8, r0, -⟩, -⟩ := id c1.2.1
  obtain ⟨h1, e1, e2, e3, e4⟩ := c_append c2 w n
  have lo : ∀ a j, tyF a j → a = 9 ∨ a = 10 ∨ a = 11 ∨ a = 12 ∨ (a = 8 ∧ j = 1104) := fun a j z => by unfold tyF at z; omega
  have zn1 : zn h1 = zn h := congrArg Prod.fst e4
  have zs1 : zs h1 = zs h := congrArg Prod.snd e4
  refine ⟨h1, own, u, v, ?_, ⟨c1.lowT e3 lo, e2, (e3.I c2.1.1 (by unfold tyF; omega)).trans c3, (e3.I o8 (by unfold tyF; omega)).trans c4, c5.on c1.1.2.2.1 e3 (fun p hp => by unfold tyF; omega)⟩, exO.rf _ _, e3.mono (fun a j _ z => ?_), by omega, by omega⟩
  · unfold f_X10_type
    have ib := isB_if (typ T w n).1
    rw [ck_yes o8, r0, ck_yes c2.1.1, e1, bind_some9]
    dsimp only
    rw [ck_yes (of_eq_true ib)]
  · have := lo a j z
    rw [ow100 c1.1.1 (by omega)]; omega
theorem c_fault (C : CL vs now h own u v W T fa tk) : f_X10_fault 8 h = some (fa, h) := by
  obtain ⟨c1, c2, c3, c4, c5⟩ := C
  obtain ⟨⟨o8, r0, -⟩, -⟩ := id c1.2.1
  unfold f_X10_fault
  rw [ck_yes o8, r0, ck_yes c2.1.1, c3]
theorem c_clear (C : CL vs now h own u v W T fa tk) : ∃ h1, f_X3_clear 9 h = some h1 ∧ CL vs now h1 own u v W [] (-1) tk ∧ acL h own u v h1 own u v := by
  obtain ⟨c1, c2, c3, c4, c5⟩ := C
  obtain ⟨⟨o8, r0, -⟩, -⟩ := id c1.2.1
  have f : cf (fun a j => a = 9 ∧ (j = 403 ∨ j = 405)) h (pI (pI h 403 9 0) 405 9 (-1)) := (cf_pI (S := fun a j => a = 9 ∧ (j = 403 ∨ j = 405)) ⟨rfl, Or.inl rfl⟩).tr (cf_pI ⟨rfl, Or.inr rfl⟩)
  refine ⟨pI (pI h 403 9 0) 405 9 (-1), ?_, ⟨c1.lowT f (fun a j z => by omega), ?_, ?_, ?_, c5.on c1.1.2.2.1 f (fun p hp => by omega)⟩, exO.rf _ _, f.mono (fun a j _ z => ?_), by show zs h + _ + _ ≤ _; omega, by show zn h + _ + _ ≤ _; omega⟩
  · unfold f_X3_clear
    rw [ck_yes c2.1.1]
    rfl
  · obtain ⟨⟨a, b1, b2, b3⟩, b, c, d, e, t, g⟩ := c2
    exact ⟨⟨a, b1, b2, b3⟩, b, c, d, rfl, ⟨by show 0 ≤ 300; omega, fun x hx => by cases hx⟩, fun k x hk => by simp at hk⟩
  · rw [zI_pI, if_pos ⟨rfl, rfl⟩]
  · exact (f.I o8 (by omega)).trans c4
  · rw [z.1, ow100 c1.1.1 (by omega)]; omega
/-- a program comes -/
theorem c_programB (C : CL vs now h own u v W T fa tk) {p : Int32} (hp : p < 0 ∨ ¬ p < 8) : rC vs now h own u v W [] (-1) tk (fun h1 => (.inr (17, h1) : Sum (Int32 × Hp) (Nat × Hp))) (f_X10_program 8 p h) := by
  obtain ⟨⟨o8, r0, -⟩, -⟩ := id C.1.2.1
  have o9 := C.2.1.1.1
  obtain ⟨h1, e1, e2, e3⟩ := c_clear C
  refine ⟨h1, own, u, v, ?_, e2, e3⟩
  unfold f_X10_program
  by_cases c : p < 0
  · rw [if_pos c, ck_yes o8, r0, ck_yes o9, e1, bind_some9]
  · rw [if_neg c, if_neg (by rcases hp with z | z; exact absurd z c; exact z), ck_yes o8, r0, ck_yes o9, e1, bind_some9]
theorem c_programF (C : CL vs now h own u v W T fa tk) {p : Int32} (h1 : ¬ p < 0) (h2 : p < 8) (hf : (prs T).1 ≠ -1) : rC vs now h own u v W [] (prs T).1 tk (fun h1 => (.inr (39, h1) : Sum (Int32 × Hp) (Nat × Hp))) (f_X10_program 8 p h) := by
  obtain ⟨⟨o8, r0, -⟩, -⟩ := id C.1.2.1
  have o9 := C.2.1.1.1
  obtain ⟨c1, c2, c3, c4, c5⟩ := C
  obtain ⟨k, e1, e2, e3, e4, e5⟩ := (c_parse c2 (by have := c1.1.2.1; omega)).2 hf
  have lo : ∀ a j, paF a j → a = 9 ∨ a = 10 ∨ a = 11 ∨ a = 12 ∨ (a = 8 ∧ j = 1104) := fun a j z => by unfold paF at z; omega
  have zn1 : zn k = zn h := congrArg Prod.fst e5
  have zs1 : zs k = zs h := congrArg Prod.snd e5
  refine ⟨k, own, u, v, ?_, ⟨c1.lowT e4 lo, e2, e3, (e4.I o8 (by unfold paF; omega)).trans c4, c5.on c1.1.2.2.1 e4 (fun p hp => by unfold paF; omega)⟩, exO.rf _ _, e4.mono (fun a j _ z => ?_), by omega, by omega⟩
  · unfold f_X10_program
    rw [if_neg h1, if_pos h2, ck_yes o8, r0, ck_yes o9, e1, bind_some9]
    dsimp only
    rw [if_pos rfl]
  · have := lo a j z
    rw [ow100 c1.1.1 (by omega)]; omega
theorem CW.ownX {own1 : Nat → Nat} (R : CW vs now h own u v W) (e : exO own own1 h) : CW vs now h own1 u v W := by
  obtain ⟨⟨w, hz, vc, ck⟩, tp, sh⟩ := R
  exact ⟨⟨w.on e hz, hz, vc.on w (cf.rf (S := fun _ _ => False) h) e (fun _ _ _ z => z), ck⟩, tp, fun s hs => (sh s hs).off w hs (cf.rf (S := fun _ _ => False) h) e (fun _ _ _ z => z)⟩
theorem pgN.prC {h : Hp} {own : Nat → Nat} {p : Nat} {P : Prg} (k : pgN h p P) (o1 : own p = 102) (o2 : own (p + 1) = 102) : prC h own p P := by
  obtain ⟨a, b, c, d, e, f⟩ := k
  exact ⟨⟨a, o1, b⟩, p + 1, ⟨c, d, o2, e⟩, f⟩
theorem c_programY (C : CL vs now h own u v W T fa tk) {p : Nat} (h2 : p < 8) (hl : (vs p).length ≤ 550) (hf : (prs T).1 = -1) : rC (upf vs p (vs p ++ [(prs T).2])) now h own u v W [] (-1) tk (fun h1 => (.inl (nI (prs T).2.length, h1) : Sum (Int32 × Hp) (Nat × Hp))) (f_X10_program 8 (nI p) h) := by
  obtain ⟨⟨o8, r0, r1, r2, r3⟩, -⟩ := id C.1.2.1
  have o9 := C.2.1.1.1
  have hL := (prs_ok C.2.1.2.2.2.2.2.1 hf).1.1
  obtain ⟨c1, c2, c3, c4, c5⟩ := C
  have hz := c1.1.2.1
  have w := c1.1.1
  obtain ⟨k, e1, e2, e3, e4, e5, e6, e7⟩ := (c_parse c2 (by omega)).1 hf
  have lo : ∀ a j, paF a j → a = 9 ∨ a = 10 ∨ a = 11 ∨ a = 12 ∨ (a = 8 ∧ j = 1104) := fun a j z => by unfold paF at z; omega
  have ex : exO own (fun a => if a < zn h then own a else 102) h := fun a ha => if_pos ha
  have R1 := ((c1.ownX ex).lowT e4 lo)
  generalize ho : (fun a => if a < zn h then own a else 102) = own1 at *
  have fre : ∀ a, zn h ≤ a → own1 a = 102 := fun a ha => by rw [← ho]; exact if_neg (by omega)
  have pr : prC k own1 (zn h) (prs T).2 := e5.prC (fre _ (by omega)) (fre _ (by omega))
  have X1 : vsX k vs := c5.on c1.1.2.2.1 e4 (fun p hp => by unfold paF; omega)
  obtain ⟨g, y1, y2, y3, y4, y5, y6⟩ := c_addP R1.1.2.2.1 X1 h2 hl pr (fun a ha => fre a (by omega)) R1.1.1 R1.1.2.1
  have w1 := R1.1.1
  have no : ∀ a j, a < 32 → ¬ (a = 17 + 2 * p ∧ j ≤ 2) → ¬ ((a = 17 + 2 * p ∧ j ≤ 2) ∨ (own1 a = 102 ∧ zT k a = 29)) := fun a j ha hb z => by
    rw [ow100 w1 ha] at z; omega
  have b := R1.1.2.2.1.2 p h2
  refine ⟨g, own1, u, v, ?_, ⟨⟨⟨w1, Nat.le_trans R1.1.2.1 y4.1, y2, y4.O R1.1.2.2.2.1, (y4.I R1.1.2.2.2.1 (no _ _ (by omega) (by omega))).trans R1.1.2.2.2.2⟩, R1.2.1.on y4 (fun j _ _ => no _ _ (by omega) (by omega)) (fun j => no _ _ (by omega) (by omega)), fun s hs => (R1.2.2 s hs).off2 w1 hs y4 (exO.rf _ _) (fun a j ha z => ?_)⟩, e2.on y4 (fun j _ _ => no _ _ (by omega) (by omega)) (fun j => no _ _ (by omega) (by omega)), (y4.I e2.1.1 (no _ _ (by omega) (by omega))).trans e3, ?_, y3⟩, ex, ?_, ?_, by omega⟩
  · have t1 : (nI p).toNatClampNeg = p := zi_nat (by omega)
    have p8 : nI p < 8 := (zi_lt (b := 8) (by omega) (by omega)).mpr h2
    unfold f_X10_program
    rw [if_neg (zi_neg (by omega)), if_pos p8, ck_yes o8, r0, ck_yes o9, e1, bind_some9]
    dsimp only
    rw [if_neg (by omega), ck_yes R1.2.1.1.1, R1.2.1.1.2.2.2.1, ck_yes R1.1.2.2.1.1.1, R1.1.2.2.1.1.2, ck_yes (zi_in h2 (by omega)), t1, b.1, ck_yes b.2.1, b.2.2.1, ck_yes b.2.2.2.1, y1, bind_some9]
    dsimp only
    rw [ck_yes (y4.O e5.1), y4.I e5.1 (fun z => ?_), e5.2.1]
    have := e5.1.2.2
    rcases z with z | z
    · omega
    · omega
  · rcases z with z | z
    · rw [z.1, ow100 w1 (by omega)] at ha
      omega
    · omega
  · exact (y4.I (e4.O o8) (no _ _ (by omega) (by omega))).trans ((e4.I o8 (by unfold paF; omega)).trans c4)
  · refine (e4.mono (S1 := fun a _ => own a ≠ 101) (fun a j ha z => ?_)).tr2 y4 (fun a j ha z => ?_)
    · have := lo a j z
      rw [ow100 w (by omega)]; omega
    · rw [← ex a ha]
      rcases z with z | z
      · rw [z.1, ow100 w1 (by omega)]; omega
      · omega
  · have : kN 5 ≤ 100 := by decide
    omega
end Tape
