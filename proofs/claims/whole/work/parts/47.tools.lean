/-! READING BEHIND WRITING -/
section RW
variable (h : Hp)
theorem zn_pI (f0 a0 : Nat) (v : Int32) : zn (pI h f0 a0 v) = zn h := rfl
theorem zs_pI (f0 a0 : Nat) (v : Int32) : zs (pI h f0 a0 v) = zs h := rfl
theorem zT_pI (f0 a0 : Nat) (v : Int32) (q : Nat) : zT (pI h f0 a0 v) q = zT h q := rfl
theorem zL_pI (f0 a0 : Nat) (v : Int32) (q : Nat) : zL (pI h f0 a0 v) q = zL h q := rfl
theorem zI_pI (f0 a0 : Nat) (v : Int32) (f : Nat) (q : Nat) : zI (pI h f0 a0 v) f q = if f = f0 ∧ q = a0 then v else zI h f q := Eq.trans rfl rfl
theorem zE_pI (f0 a0 : Nat) (v : Int32) (q : Nat) (j : Nat) : zE (pI h f0 a0 v) q j = zE h q j := rfl
theorem zR_pI (f0 a0 : Nat) (v : Int32) (f : Nat) (q : Nat) : zR (pI h f0 a0 v) f q = zR h f q := rfl
theorem zQ_pI (f0 a0 : Nat) (v : Int32) (q : Nat) (j : Nat) : zQ (pI h f0 a0 v) q j = zQ h q j := rfl
theorem zJ_pI (f0 a0 : Nat) (v : Int32) (f : Nat) (q : Nat) : zJ (pI h f0 a0 v) f q = zJ h f q := rfl
theorem zX_pI (f0 a0 : Nat) (v : Int32) (q : Nat) (j : Nat) : zX (pI h f0 a0 v) q j = zX h q j := rfl
theorem zn_pE (f0 a0 : Nat) (v : Int32) : zn (pE h f0 a0 v) = zn h := rfl
theorem zs_pE (f0 a0 : Nat) (v : Int32) : zs (pE h f0 a0 v) = zs h := rfl
theorem zT_pE (f0 a0 : Nat) (v : Int32) (q : Nat) : zT (pE h f0 a0 v) q = zT h q := rfl
theorem zL_pE (f0 a0 : Nat) (v : Int32) (q : Nat) : zL (pE h f0 a0 v) q = zL h q := rfl
theorem zI_pE (f0 a0 : Nat) (v : Int32) (f : Nat) (q : Nat) : zI (pE h f0 a0 v) f q = zI h f q := rfl
theorem zE_pE (f0 a0 : Nat) (v : Int32) (q : Nat) (j : Nat) : zE (pE h f0 a0 v) q j = if q = f0 ∧ j = a0 then v else zE h q j := Eq.trans rfl rfl
theorem zR_pE (f0 a0 : Nat) (v : Int32) (f : Nat) (q : Nat) : zR (pE h f0 a0 v) f q = zR h f q := rfl
theorem zQ_pE (f0 a0 : Nat) (v : Int32) (q : Nat) (j : Nat) : zQ (pE h f0 a0 v) q j = zQ h q j := rfl
theorem zJ_pE (f0 a0 : Nat) (v : Int32) (f : Nat) (q : Nat) : zJ (pE h f0 a0 v) f q = zJ h f q := rfl
theorem zX_pE (f0 a0 : Nat) (v : Int32) (q : Nat) (j : Nat) : zX (pE h f0 a0 v) q j = zX h q j := rfl
theorem zn_pR (f0 a0 v : Nat) : zn (pR h f0 a0 v) = zn h := rfl
theorem zs_pR (f0 a0 v : Nat) : zs (pR h f0 a0 v) = zs h := rfl
theorem zT_pR (f0 a0 v : Nat) (q : Nat) : zT (pR h f0 a0 v) q = zT h q := rfl
theorem zL_pR (f0 a0 v : Nat) (q : Nat) : zL (pR h f0 a0 v) q = zL h q := rfl
theorem zI_pR (f0 a0 v : Nat) (f : Nat) (q : Nat) : zI (pR h f0 a0 v) f q = zI h f q := rfl
theorem zE_pR (f0 a0 v : Nat) (q : Nat) (j : Nat) : zE (pR h f0 a0 v) q j = zE h q j := rfl
theorem zR_pR (f0 a0 v : Nat) (f : Nat) (q : Nat) : zR (pR h f0 a0 v) f q = if f = f0 ∧ q = a0 then v else zR h f q := Eq.trans rfl rfl
theorem zQ_pR (f0 a0 v : Nat) (q : Nat) (j : Nat) : zQ (pR h f0 a0 v) q j = zQ h q j := rfl
theorem zJ_pR (f0 a0 v : Nat) (f : Nat) (q : Nat) : zJ (pR h f0 a0 v) f q = zJ h f q := rfl
theorem zX_pR (f0 a0 v : Nat) (q : Nat) (j : Nat) : zX (pR h f0 a0 v) q j = zX h q j := rfl
theorem zn_pQ (f0 a0 v : Nat) : zn (pQ h f0 a0 v) = zn h := rfl
theorem zs_pQ (f0 a0 v : Nat) : zs (pQ h f0 a0 v) = zs h := rfl
theorem zT_pQ (f0 a0 v : Nat) (q : Nat) : zT (pQ h f0 a0 v) q = zT h q := rfl
theorem zL_pQ (f0 a0 v : Nat) (q : Nat) : zL (pQ h f0 a0 v) q = zL h q := rfl
theorem zI_pQ (f0 a0 v : Nat) (f : Nat) (q : Nat) : zI (pQ h f0 a0 v) f q = zI h f q := rfl
theorem zE_pQ (f0 a0 v : Nat) (q : Nat) (j : Nat) : zE (pQ h f0 a0 v) q j = zE h q j := rfl
theorem zR_pQ (f0 a0 v : Nat) (f : Nat) (q : Nat) : zR (pQ h f0 a0 v) f q = zR h f q := rfl
theorem zQ_pQ (f0 a0 v : Nat) (q : Nat) (j : Nat) : zQ (pQ h f0 a0 v) q j = if q = f0 ∧ j = a0 then v else zQ h q j := Eq.trans rfl rfl
theorem zJ_pQ (f0 a0 v : Nat) (f : Nat) (q : Nat) : zJ (pQ h f0 a0 v) f q = zJ h f q := rfl
theorem zX_pQ (f0 a0 v : Nat) (q : Nat) (j : Nat) : zX (pQ h f0 a0 v) q j = zX h q j := rfl
theorem zn_pJ (f0 a0 : Nat) (v : Int64) : zn (pJ h f0 a0 v) = zn h := rfl
theorem zs_pJ (f0 a0 : Nat) (v : Int64) : zs (pJ h f0 a0 v) = zs h := rfl
theorem zT_pJ (f0 a0 : Nat) (v : Int64) (q : Nat) : zT (pJ h f0 a0 v) q = zT h q := rfl
theorem zL_pJ (f0 a0 : Nat) (v : Int64) (q : Nat) : zL (pJ h f0 a0 v) q = zL h q := rfl
theorem zI_pJ (f0 a0 : Nat) (v : Int64) (f : Nat) (q : Nat) : zI (pJ h f0 a0 v) f q = zI h f q := rfl
theorem zE_pJ (f0 a0 : Nat) (v : Int64) (q : Nat) (j : Nat) : zE (pJ h f0 a0 v) q j = zE h q j := rfl
theorem zR_pJ (f0 a0 : Nat) (v : Int64) (f : Nat) (q : Nat) : zR (pJ h f0 a0 v) f q = zR h f q := rfl
theorem zQ_pJ (f0 a0 : Nat) (v : Int64) (q : Nat) (j : Nat) : zQ (pJ h f0 a0 v) q j = zQ h q j := rfl
theorem zJ_pJ (f0 a0 : Nat) (v : Int64) (f : Nat) (q : Nat) : zJ (pJ h f0 a0 v) f q = if f = f0 ∧ q = a0 then v else zJ h f q := Eq.trans rfl rfl
theorem zX_pJ (f0 a0 : Nat) (v : Int64) (q : Nat) (j : Nat) : zX (pJ h f0 a0 v) q j = zX h q j := rfl
theorem zn_pX (f0 a0 : Nat) (v : Int64) : zn (pX h f0 a0 v) = zn h := rfl
theorem zs_pX (f0 a0 : Nat) (v : Int64) : zs (pX h f0 a0 v) = zs h := rfl
theorem zT_pX (f0 a0 : Nat) (v : Int64) (q : Nat) : zT (pX h f0 a0 v) q = zT h q := rfl
theorem zL_pX (f0 a0 : Nat) (v : Int64) (q : Nat) : zL (pX h f0 a0 v) q = zL h q := rfl
theorem zI_pX (f0 a0 : Nat) (v : Int64) (f : Nat) (q : Nat) : zI (pX h f0 a0 v) f q = zI h f q := rfl
theorem zE_pX (f0 a0 : Nat) (v : Int64) (q : Nat) (j : Nat) : zE (pX h f0 a0 v) q j = zE h q j := rfl
theorem zR_pX (f0 a0 : Nat) (v : Int64) (f : Nat) (q : Nat) : zR (pX h f0 a0 v) f q = zR h f q := rfl
theorem zQ_pX (f0 a0 : Nat) (v : Int64) (q : Nat) (j : Nat) : zQ (pX h f0 a0 v) q j = zQ h q j := rfl
theorem zJ_pX (f0 a0 : Nat) (v : Int64) (f : Nat) (q : Nat) : zJ (pX h f0 a0 v) f q = zJ h f q := rfl
theorem zX_pX (f0 a0 : Nat) (v : Int64) (q : Nat) (j : Nat) : zX (pX h f0 a0 v) q j = if q = f0 ∧ j = a0 then v else zX h q j := Eq.trans rfl rfl
end RW
section RN
variable (h : Hp) (t n : Nat)
theorem zn_pN : zn (pN h t n) = zn h + 1 := rfl
theorem zs_pN : zs (pN h t n) = zs h + n := rfl
theorem zT_pN (q : Nat) : zT (pN h t n) q = if q = zn h then t else zT h q := Eq.trans rfl rfl
theorem zL_pN (q : Nat) : zL (pN h t n) q = if q = zn h then n else zL h q := Eq.trans rfl rfl
theorem zI_pN (f q : Nat) : zI (pN h t n) f q = if q = zn h then 0 else zI h f q := Eq.trans rfl rfl
theorem zR_pN (f q : Nat) : zR (pN h t n) f q = if q = zn h then 0 else zR h f q := Eq.trans rfl rfl
theorem zJ_pN (f q : Nat) : zJ (pN h t n) f q = if q = zn h then 0 else zJ h f q := Eq.trans rfl rfl
theorem zE_pN (q j : Nat) : zE (pN h t n) q j = if q = zn h then 0 else zE h q j := by
  show va_up (zE h) (zn h) (fun _ => 0) q j = _
  unfold va_up
  split <;> rfl
theorem zQ_pN (q j : Nat) : zQ (pN h t n) q j = if q = zn h then 0 else zQ h q j := by
  show va_up (zQ h) (zn h) (fun _ => 0) q j = _
  unfold va_up
  split <;> rfl
theorem zX_pN (q j : Nat) : zX (pN h t n) q j = if q = zn h then 0 else zX h q j := by
  show va_up (zX h) (zn h) (fun _ => 0) q j = _
  unfold va_up
  split <;> rfl
end RN
/-! Numbers -/
theorem zi_int {n : Nat} (h : n < 2147483648) : (nI n).toInt = (n : Int) := Int32.toInt_ofNat_of_lt h
theorem zi_nat {n : Nat} (h : n < 2147483648) : (nI n).toNatClampNeg = n := by
  rw [show (nI n).toNatClampNeg = (nI n).toInt.toNat from rfl, zi_int h]; rfl
theorem zi_lt {a b : Nat} (ha : a < 2147483648) (hb : b < 2147483648) : nI a < nI b ↔ a < b := by
  rw [Int32.lt_iff_toInt_lt, zi_int ha, zi_int hb]; omega
theorem zi_le {a b : Nat} (ha : a < 2147483648) (hb : b < 2147483648) : nI a ≤ nI b ↔ a ≤ b := by
  rw [Int32.le_iff_toInt_le, zi_int ha, zi_int hb]; omega
theorem zi_eq {a b : Nat} (ha : a < 2147483648) (hb : b < 2147483648) : nI a = nI b ↔ a = b := by
  rw [← Int32.toInt_inj, zi_int ha, zi_int hb]; omega
theorem zi_add (a b : Nat) : nI a + nI b = nI (a + b) := (Int32.ofNat_add a b).symm
theorem zi_mul (a b : Nat) : nI a * nI b = nI (a * b) := (Int32.ofNat_mul a b).symm
theorem zi_sub {a b : Nat} (h : b ≤ a) : nI a - nI b = nI (a - b) := by
  have e := zi_add (a - b) b
  rw [Nat.sub_add_cancel h] at e
  rw [← e, Int32.add_sub_cancel]
theorem zi_neg {n : Nat} (h : n < 2147483648) : ¬ nI n < 0 := by
  rw [Int32.lt_iff_toInt_lt, zi_int h]
  show ¬ (n : Int) < 0
  omega
theorem zi_ne1 {n : Nat} (h : n < 2147483648) : nI n ≠ -1 := by
  intro e
  have := congrArg Int32.toInt e
  rw [zi_int h] at this
  have h2 : ((-1 : Int32)).toInt = -1 := by decide
  rw [h2] at this
  omega
theorem zi_div {a b : Nat} (ha : a < 2147483648) (hb : b < 2147483648) (h0 : 0 < b) : nI a / nI b = nI (a / b) := by
  have h1 : a / b < 2147483648 := Nat.lt_of_le_of_lt (Nat.div_le_self a b) ha
  rw [← Int32.toInt_inj, Int32.toInt_div_of_ne_right, zi_int ha, zi_int hb, zi_int h1]
  · rw [Int.tdiv_eq_ediv_of_nonneg (by omega)]; rfl
  · intro e
    have := congrArg Int32.toInt e
    rw [zi_int hb] at this
    have h2 : ((-1 : Int32)).toInt = -1 := by decide
    rw [h2] at this
    omega
theorem zi_mod {a b : Nat} (ha : a < 2147483648) (hb : b < 2147483648) (h0 : 0 < b) : nI a - nI a / nI b * nI b = nI (a % b) := by
  rw [zi_div ha hb h0, zi_mul, zi_sub (Nat.div_mul_le_self a b)]
  congr 1
  have := Nat.div_add_mod a b
  rw [Nat.mul_comm] at this
  omega
/-- a number that is not below 0 is a natural one -/
theorem zi_of {x : Int32} (h : ¬ x < 0) : ∃ n : Nat, n < 2147483648 ∧ x = nI n := by
  refine ⟨x.toNatClampNeg, ?_, ?_⟩
  · have := Int32.toNatClampNeg_lt x
    omega
  · rw [← Int32.toInt_inj, zi_int (by have := Int32.toNatClampNeg_lt x; omega)]
    rw [Int32.lt_iff_toInt_lt] at h
    have h0 : (0 : Int32).toInt = 0 := by decide
    rw [h0] at h
    show x.toInt = ((x.toInt.toNat : Nat) : Int)
    omega
theorem zi_in {i n : Nat} (h : i < n) (hi : i < 2147483648) : inR (nI i) n := by
  intro q
  rcases q with q | q
  · exact zi_neg hi q
  · rw [zi_nat hi] at q
    omega
theorem ck_yes {c : Prop} [Decidable c] {α : Type} {x : Option α} (hc : c) : ck c x = x := if_pos hc
/-! WHAT STAYS: but for the things of F, all that was there is as it was -/
def fr (F : Nat → Prop) (h h1 : Hp) : Prop := zn h ≤ zn h1 ∧ zs h ≤ zs h1 ∧ ∀ a, a < zn h → zT h1 a = zT h a ∧ zL h1 a = zL h a ∧ (¬ F a → (∀ f, zI h1 f a = zI h f a ∧ zR h1 f a = zR h f a ∧ zJ h1 f a = zJ h f a) ∧ ∀ j, zE h1 a j = zE h a j ∧ zQ h1 a j = zQ h a j ∧ zX h1 a j = zX h a j)
theorem fr.rf {F : Nat → Prop} (h : Hp) : fr F h h := ⟨Nat.le_refl _, Nat.le_refl _, fun _ _ => ⟨rfl, rfl, fun _ => ⟨fun _ => ⟨rfl, rfl, rfl⟩, fun _ => ⟨rfl, rfl, rfl⟩⟩⟩⟩
theorem fr.trans {F : Nat → Prop} {h h1 h2 : Hp} (p : fr F h h1) (q : fr F h1 h2) : fr F h h2 := by
  obtain ⟨p1, p2, p3⟩ := p
  obtain ⟨q1, q2, q3⟩ := q
  refine ⟨Nat.le_trans p1 q1, Nat.le_trans p2 q2, fun a ha => ?_⟩
  obtain ⟨a1, a2, a3⟩ := p3 a ha
  obtain ⟨b1, b2, b3⟩ := q3 a (Nat.lt_of_lt_of_le ha p1)
  refine ⟨b1.trans a1, b2.trans a2, fun hF => ?_⟩
  obtain ⟨c1, c2⟩ := a3 hF
  obtain ⟨d1, d2⟩ := b3 hF
  exact ⟨fun f => ⟨(d1 f).1.trans (c1 f).1, (d1 f).2.1.trans (c1 f).2.1, (d1 f).2.2.trans (c1 f).2.2⟩, fun j => ⟨(d2 j).1.trans (c2 j).1, (d2 j).2.1.trans (c2 j).2.1, (d2 j).2.2.trans (c2 j).2.2⟩⟩
theorem fr.mono {F F1 : Nat → Prop} {h h1 : Hp} (p : fr F h h1) (q : ∀ a, a < zn h → F a → F1 a) : fr F1 h h1 := ⟨p.1, p.2.1, fun a ha => ⟨(p.2.2 a ha).1, (p.2.2 a ha).2.1, fun hF => (p.2.2 a ha).2.2 (fun z => hF (q a ha z))⟩⟩
theorem fr_pI {F : Nat → Prop} {h : Hp} {f0 a0 : Nat} {v : Int32} (hF : F a0) : fr F h (pI h f0 a0 v) := by
  refine ⟨Nat.le_refl _, Nat.le_refl _, fun a ha => ⟨rfl, rfl, fun hn => ?_⟩⟩
  have ne : a ≠ a0 := fun e => hn (e ▸ hF)
  refine ⟨fun f => ⟨?_, ?_, ?_⟩, fun j => ⟨?_, ?_, ?_⟩⟩ <;> first | rfl | (simp only [zI_pI]; rw [if_neg (fun q => ne q.2)])
theorem fr_pE {F : Nat → Prop} {h : Hp} {f0 a0 : Nat} {v : Int32} (hF : F f0) : fr F h (pE h f0 a0 v) := by
  refine ⟨Nat.le_refl _, Nat.le_refl _, fun a ha => ⟨rfl, rfl, fun hn => ?_⟩⟩
  have ne : a ≠ f0 := fun e => hn (e ▸ hF)
  refine ⟨fun f => ⟨?_, ?_, ?_⟩, fun j => ⟨?_, ?_, ?_⟩⟩ <;> first | rfl | (simp only [zE_pE]; rw [if_neg (fun q => ne q.1)])
theorem fr_pR {F : Nat → Prop} {h : Hp} {f0 a0 v : Nat} (hF : F a0) : fr F h (pR h f0 a0 v) := by
  refine ⟨Nat.le_refl _, Nat.le_refl _, fun a ha => ⟨rfl, rfl, fun hn => ?_⟩⟩
  have ne : a ≠ a0 := fun e => hn (e ▸ hF)
  refine ⟨fun f => ⟨?_, ?_, ?_⟩, fun j => ⟨?_, ?_, ?_⟩⟩ <;> first | rfl | (simp only [zR_pR]; rw [if_neg (fun q => ne q.2)])
theorem fr_pQ {F : Nat → Prop} {h : Hp} {f0 a0 v : Nat} (hF : F f0) : fr F h (pQ h f0 a0 v) := by
  refine ⟨Nat.le_refl _, Nat.le_refl _, fun a ha => ⟨rfl, rfl, fun hn => ?_⟩⟩
  have ne : a ≠ f0 := fun e => hn (e ▸ hF)
  refine ⟨fun f => ⟨?_, ?_, ?_⟩, fun j => ⟨?_, ?_, ?_⟩⟩ <;> first | rfl | (simp only [zQ_pQ]; rw [if_neg (fun q => ne q.1)])
theorem fr_pJ {F : Nat → Prop} {h : Hp} {f0 a0 : Nat} {v : Int64} (hF : F a0) : fr F h (pJ h f0 a0 v) := by
  refine ⟨Nat.le_refl _, Nat.le_refl _, fun a ha => ⟨rfl, rfl, fun hn => ?_⟩⟩
  have ne : a ≠ a0 := fun e => hn (e ▸ hF)
  refine ⟨fun f => ⟨?_, ?_, ?_⟩, fun j => ⟨?_, ?_, ?_⟩⟩ <;> first | rfl | (simp only [zJ_pJ]; rw [if_neg (fun q => ne q.2)])
theorem fr_pX {F : Nat → Prop} {h : Hp} {f0 a0 : Nat} {v : Int64} (hF : F f0) : fr F h (pX h f0 a0 v) := by
  refine ⟨Nat.le_refl _, Nat.le_refl _, fun a ha => ⟨rfl, rfl, fun hn => ?_⟩⟩
  have ne : a ≠ f0 := fun e => hn (e ▸ hF)
  refine ⟨fun f => ⟨?_, ?_, ?_⟩, fun j => ⟨?_, ?_, ?_⟩⟩ <;> first | rfl | (simp only [zX_pX]; rw [if_neg (fun q => ne q.1)])
theorem fr_pN {F : Nat → Prop} {h : Hp} {t n : Nat} : fr F h (pN h t n) := by
  refine ⟨Nat.le_succ _, Nat.le_add_right _ _, fun a ha => ?_⟩
  have ne : a ≠ zn h := Nat.ne_of_lt ha
  simp [zT_pN, zL_pN, zI_pN, zR_pN, zJ_pN, zE_pN, zQ_pN, zX_pN, ne]
