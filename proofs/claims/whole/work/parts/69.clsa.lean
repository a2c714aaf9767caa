/-! THE CLASS'S HEAP: what stays -/
def sm (h h1 : Hp) (a j : Nat) : Prop := zI h1 j a = zI h j a ∧ zR h1 j a = zR h j a ∧ zJ h1 j a = zJ h j a ∧ zE h1 a j = zE h a j ∧ zQ h1 a j = zQ h a j ∧ zX h1 a j = zX h a j
theorem sm.rf (h : Hp) (a j : Nat) : sm h h a j := ⟨rfl, rfl, rfl, rfl, rfl, rfl⟩
theorem sm.tr {h h1 h2 : Hp} {a j : Nat} (p : sm h h1 a j) (q : sm h1 h2 a j) : sm h h2 a j := ⟨q.1.trans p.1, q.2.1.trans p.2.1, q.2.2.1.trans p.2.2.1, q.2.2.2.1.trans p.2.2.2.1, q.2.2.2.2.1.trans p.2.2.2.2.1, q.2.2.2.2.2.trans p.2.2.2.2.2⟩
def cf (S : Nat → Nat → Prop) (h h1 : Hp) : Prop := zn h ≤ zn h1 ∧ (∀ a, a < zn h → zT h1 a = zT h a ∧ zL h1 a = zL h a) ∧ ∀ a j, a < zn h → ¬ S a j → sm h h1 a j
theorem cf.rf {S : Nat → Nat → Prop} (h : Hp) : cf S h h := ⟨Nat.le_refl _, fun _ _ => ⟨rfl, rfl⟩, fun a j _ _ => sm.rf h a j⟩
theorem cf.tr {S : Nat → Nat → Prop} {h h1 h2 : Hp} (p : cf S h h1) (q : cf S h1 h2) : cf S h h2 := by
  obtain ⟨p1, p2, p3⟩ := p
  obtain ⟨q1, q2, q3⟩ := q
  refine ⟨Nat.le_trans p1 q1, fun a ha => ?_, fun a j ha hs => (p3 a j ha hs).tr (q3 a j (by omega) hs)⟩
  obtain ⟨x1, x2⟩ := p2 a ha
  obtain ⟨y1, y2⟩ := q2 a (by omega)
  exact ⟨y1.trans x1, y2.trans x2⟩
theorem cf.mono {S S1 : Nat → Nat → Prop} {h h1 : Hp} (p : cf S h h1) (q : ∀ a j, a < zn h → S a j → S1 a j) : cf S1 h h1 := ⟨p.1, p.2.1, fun a j ha hj => p.2.2 a j ha (fun z => hj (q a j ha z))⟩
theorem up2_nq {α : Type} {f : Nat → Nat → α} {a b x y : Nat} {v : α} (h : ¬ (x = a ∧ y = b)) : up2 f a b v x y = f x y := if_neg h
theorem cf_pI {S : Nat → Nat → Prop} {h : Hp} {f a : Nat} {v : Int32} (hs : S a f) : cf S h (pI h f a v) := ⟨Nat.le_refl _, fun _ _ => ⟨rfl, rfl⟩, fun b j _ hb => ⟨up2_nq (fun z => hb (by rw [z.1, z.2]; exact hs)), rfl, rfl, rfl, rfl, rfl⟩⟩
theorem cf_pE {S : Nat → Nat → Prop} {h : Hp} {a j : Nat} {v : Int32} (hs : S a j) : cf S h (pE h a j v) := ⟨Nat.le_refl _, fun _ _ => ⟨rfl, rfl⟩, fun b i _ hb => ⟨rfl, rfl, rfl, up2_nq (fun z => hb (by rw [z.1, z.2]; exact hs)), rfl, rfl⟩⟩
theorem cf_pR {S : Nat → Nat → Prop} {h : Hp} {f a v : Nat} (hs : S a f) : cf S h (pR h f a v) := ⟨Nat.le_refl _, fun _ _ => ⟨rfl, rfl⟩, fun b j _ hb => ⟨rfl, up2_nq (fun z => hb (by rw [z.1, z.2]; exact hs)), rfl, rfl, rfl, rfl⟩⟩
theorem cf_pQ {S : Nat → Nat → Prop} {h : Hp} {a j v : Nat} (hs : S a j) : cf S h (pQ h a j v) := ⟨Nat.le_refl _, fun _ _ => ⟨rfl, rfl⟩, fun b i _ hb => ⟨rfl, rfl, rfl, rfl, up2_nq (fun z => hb (by rw [z.1, z.2]; exact hs)), rfl⟩⟩
theorem cf_pJ {S : Nat → Nat → Prop} {h : Hp} {f a : Nat} {v : Int64} (hs : S a f) : cf S h (pJ h f a v) := ⟨Nat.le_refl _, fun _ _ => ⟨rfl, rfl⟩, fun b j _ hb => ⟨rfl, rfl, up2_nq (fun z => hb (by rw [z.1, z.2]; exact hs)), rfl, rfl, rfl⟩⟩
theorem cf_pX {S : Nat → Nat → Prop} {h : Hp} {a j : Nat} {v : Int64} (hs : S a j) : cf S h (pX h a j v) := ⟨Nat.le_refl _, fun _ _ => ⟨rfl, rfl⟩, fun b i _ hb => ⟨rfl, rfl, rfl, rfl, rfl, up2_nq (fun z => hb (by rw [z.1, z.2]; exact hs))⟩⟩
theorem va_up_nq {α : Type} {f : Nat → α} {k j : Nat} {v : α} (h : j ≠ k) : va_up f k v j = f j := if_neg h
theorem va_up_at {α : Type} {f : Nat → α} {k : Nat} {v : α} : va_up f k v k = v := if_pos rfl
theorem cf_pN {S : Nat → Nat → Prop} (h : Hp) (t n : Nat) : cf S h (pN h t n) := by
  refine ⟨Nat.le_succ _, fun a ha => ⟨va_up_nq (by omega), va_up_nq (by omega)⟩, fun a j ha _ => ⟨?_, ?_, ?_, ?_, ?_, ?_⟩⟩
  · show (if a = zn h then 0 else zI h j a) = _
    rw [if_neg (by omega)]
  · show (if a = zn h then 0 else zR h j a) = _
    rw [if_neg (by omega)]
  · show (if a = zn h then 0 else zJ h j a) = _
    rw [if_neg (by omega)]
  · show va_up (zE h) (zn h) (fun _ => 0) a j = _
    rw [va_up_nq (by omega)]
  · show va_up (zQ h) (zn h) (fun _ => 0) a j = _
    rw [va_up_nq (by omega)]
  · show va_up (zX h) (zn h) (fun _ => 0) a j = _
    rw [va_up_nq (by omega)]
theorem cf_pC {S : Nat → Nat → Prop} {h : Hp} {src sp dst dp n : Nat} (hs : ∀ j, S dst j) : cf S h (pC h src sp dst dp n) := by
  refine ⟨Nat.le_refl _, fun _ _ => ⟨rfl, rfl⟩, fun b j _ hb => ⟨rfl, rfl, rfl, ?_, rfl, rfl⟩⟩
  show va_up (zE h) dst _ b j = _
  rw [va_up_nq (fun z => hb (by rw [z]; exact hs j))]
theorem cf.O {S : Nat → Nat → Prop} {h h1 : Hp} (p : cf S h h1) {a t : Nat} (o : isO h a t) : isO h1 a t := ⟨o.1, Nat.lt_of_lt_of_le o.2.1 p.1, (p.2.1 a o.2.1).1.trans o.2.2⟩
theorem cf.L {S : Nat → Nat → Prop} {h h1 : Hp} (p : cf S h h1) {a t : Nat} (o : isO h a t) : zL h1 a = zL h a := (p.2.1 a o.2.1).2
theorem cf.I {S : Nat → Nat → Prop} {h h1 : Hp} (p : cf S h h1) {a t : Nat} (o : isO h a t) {f : Nat} (hs : ¬ S a f) : zI h1 f a = zI h f a := (p.2.2 a f o.2.1 hs).1
theorem cf.R {S : Nat → Nat → Prop} {h h1 : Hp} (p : cf S h h1) {a t : Nat} (o : isO h a t) {f : Nat} (hs : ¬ S a f) : zR h1 f a = zR h f a := (p.2.2 a f o.2.1 hs).2.1
theorem cf.J {S : Nat → Nat → Prop} {h h1 : Hp} (p : cf S h h1) {a t : Nat} (o : isO h a t) {f : Nat} (hs : ¬ S a f) : zJ h1 f a = zJ h f a := (p.2.2 a f o.2.1 hs).2.2.1
theorem cf.E {S : Nat → Nat → Prop} {h h1 : Hp} (p : cf S h h1) {a t : Nat} (o : isO h a t) {j : Nat} (hs : ¬ S a j) : zE h1 a j = zE h a j := (p.2.2 a j o.2.1 hs).2.2.2.1
theorem cf.Q {S : Nat → Nat → Prop} {h h1 : Hp} (p : cf S h h1) {a t : Nat} (o : isO h a t) {j : Nat} (hs : ¬ S a j) : zQ h1 a j = zQ h a j := (p.2.2 a j o.2.1 hs).2.2.2.2.1
theorem isO_pI (h : Hp) (f b : Nat) (v : Int32) (a t : Nat) : isO (pI h f b v) a t = isO h a t := rfl
theorem isO_pE (h : Hp) (f b : Nat) (v : Int32) (a t : Nat) : isO (pE h f b v) a t = isO h a t := rfl
theorem isO_pR (h : Hp) (f b v a t : Nat) : isO (pR h f b v) a t = isO h a t := rfl
theorem isO_pQ (h : Hp) (f b v a t : Nat) : isO (pQ h f b v) a t = isO h a t := rfl
theorem isO_pJ (h : Hp) (f b : Nat) (v : Int64) (a t : Nat) : isO (pJ h f b v) a t = isO h a t := rfl
/-! BYTES -/
theorem i8_and (x : Int32) : x.toInt8.toInt32 &&& 255 = x &&& 255 := by
  apply Int32.toBitVec_inj.mp
  show (x.toBitVec.signExtend 8).signExtend 32 &&& BitVec.ofNat 32 255 = x.toBitVec &&& BitVec.ofNat 32 255
  generalize x.toBitVec = b
  apply BitVec.eq_of_getLsbD_eq
  intro i hi
  rw [BitVec.getLsbD_and, BitVec.getLsbD_and]
  by_cases c : i < 8
  · congr 1
    rw [BitVec.getLsbD_signExtend, BitVec.getLsbD_signExtend]
    simp [hi, c]
  · have : (BitVec.ofNat 32 255).getLsbD i = false := by
      rw [BitVec.getLsbD_ofNat]
      have h1 : (255 : Nat) = 2 ^ 8 - 1 := rfl
      rw [h1, Nat.testBit_two_pow_sub_one]
      simp; omega
    rw [this, Bool.and_false, Bool.and_false]
theorem i8_idem (x : Int32) : x.toInt8.toInt32.toInt8.toInt32 = x.toInt8.toInt32 := by
  congr 1
  exact Int8.toInt8_toInt32 x.toInt8
theorem i8_of {x y : Int32} (h : x &&& 255 = y &&& 255) : x.toInt8.toInt32 = y.toInt8.toInt32 := by
  congr 1
  apply Int8.toBitVec_inj.mp
  show x.toBitVec.signExtend 8 = y.toBitVec.signExtend 8
  have h := Int32.toBitVec_inj.mpr h
  have h : x.toBitVec &&& BitVec.ofNat 32 255 = y.toBitVec &&& BitVec.ofNat 32 255 := h
  apply BitVec.eq_of_getLsbD_eq
  intro i hi
  rw [BitVec.getLsbD_signExtend, BitVec.getLsbD_signExtend]
  have z := congrArg (fun b => b.getLsbD i) h
  simp only [BitVec.getLsbD_and] at z
  have : (BitVec.ofNat 32 255).getLsbD i = true := by
    rw [BitVec.getLsbD_ofNat]
    have h1 : (255 : Nat) = 2 ^ 8 - 1 := rfl
    rw [h1, Nat.testBit_two_pow_sub_one]
    simp; omega
  rw [this, Bool.and_true, Bool.and_true] at z
  rw [if_pos (by omega : i < 32), if_pos (by omega : i < 32), z]
/-- what a byte's row and an int's row ask -/
theorem b8i (x : Int8) : (decide ((-128 : Int32) ≤ x.toInt32) && decide (x.toInt32 ≤ 127)) = true := by
  have h1 : (-128 : Int32) ≤ x.toInt32 := by
    rw [Int32.le_iff_toInt_le, Int8.toInt_toInt32]
    have := Int8.le_toInt x
    have e : (-128 : Int32).toInt = -128 := by decide
    rw [e]
    omega
  have h2 : x.toInt32 ≤ 127 := by
    rw [Int32.le_iff_toInt_le, Int8.toInt_toInt32]
    have := Int8.toInt_lt x
    have e : (127 : Int32).toInt = 127 := by decide
    rw [e]
    omega
  rw [decide_eq_true h1, decide_eq_true h2]
  rfl
theorem fit20 (b : Int32) : fits (kA 20) (.int b.toInt8.toInt32) = true := b8i b.toInt8
theorem fit22 (b : Int32) : fits (kA 22) (.int b) = true := rfl
/-! A DISK OF THE CLASS, byte by byte -/
theorem cf.tr2 {S S1 : Nat → Nat → Prop} {h h1 h2 : Hp} (p : cf S h h1) (q : cf S1 h1 h2) (hq : ∀ a j, a < zn h → S1 a j → S a j) : cf S h h2 := by
  obtain ⟨p1, p2, p3⟩ := p
  obtain ⟨q1, q2, q3⟩ := q
  refine ⟨Nat.le_trans p1 q1, fun a ha => ?_, fun a j ha hs => (p3 a j ha hs).tr (q3 a j (by omega) (fun z => hs (hq a j ha z)))⟩
  obtain ⟨x1, x2⟩ := p2 a ha
  obtain ⟨y1, y2⟩ := q2 a (by omega)
  exact ⟨y1.trans x1, y2.trans x2⟩
def bt8 (v : Int32) : Prop := v.toInt8.toInt32 = v
def dY (h : Hp) (D B u num sz : Nat) (up : Bool) (fu : Int32) (b : Nat → Int32) : Prop :=
  isO h D 6 ∧ zI h 600 D = nI num ∧ (zR h 601 D = B ∧ isO h B 20 ∧ zL h B = 512 * u ∧ 1 ≤ u ∧ u ≤ 260) ∧ (zI h 602 D = nI sz ∧ sz ≤ 512 * u) ∧ (zI h 603 D = (if up = true then 1 else 0) ∧ zI h 604 D = fu) ∧ (∀ p, p < sz → zE h B p = b p) ∧ ∀ p, p < 512 * u → bt8 (zE h B p)
/-- where a disk may be written -/
def dyS (D B : Nat) (a j : Nat) : Prop := (a = D ∧ 601 ≤ j ∧ j ≤ 604) ∨ a = B
/-- the room that grows with a disk -/
def rmD (h h1 : Hp) (u u1 : Nat) : Prop := zs h1 + 1024 * u ≤ zs h + 1024 * u1 ∧ zn h1 + u ≤ zn h + u1
theorem rmD.rf (h : Hp) (u : Nat) : rmD h h u u := ⟨Nat.le_refl _, Nat.le_refl _⟩
theorem rmD.tr {h h1 h2 : Hp} {u u1 u2 : Nat} (p : rmD h h1 u u1) (q : rmD h1 h2 u1 u2) : rmD h h2 u u2 := by
  unfold rmD at *
  omega
def bwf (b : Nat → Int32) (sz : Nat) (src : Nat → Int32) (i : Nat) : Nat → Int32 := fun p => if p < sz then b p else src (i + (p - sz))
theorem zE_pC (h : Hp) (src sp dst dp n a j : Nat) : zE (pC h src sp dst dp n) a j = if a = dst then (if dp ≤ j ∧ j < dp + n then zE h src (sp + (j - dp)) else zE h dst j) else zE h a j := by
  show va_up (zE h) dst (va_cpy (zE h src) (zE h dst) sp dp n) a j = _
  by_cases c : a = dst
  · rw [if_pos c, c, va_up_at]
    rfl
  · rw [if_neg c, va_up_nq c]
/-- a row of bytes is made longer -/
theorem c_grow {h : Hp} {B u : Nat} (o : isO h B 20) (l : zL h B = 512 * u) (hu : 1 ≤ u) (hu2 : u ≤ 130) (hb : ∀ p, p < 512 * u → bt8 (zE h B p)) : ∃ h1, f_J7_copyOf_9075b B (nI (2 * (512 * u))) h = some (zn h, h1) ∧ cf (fun _ _ => False) h h1 ∧ isO h1 (zn h) 20 ∧ zL h1 (zn h) = 512 * (2 * u) ∧ (∀ p, p < 512 * u → zE h1 (zn h) p = zE h B p) ∧ (∀ p, p < 512 * (2 * u) → bt8 (zE h1 (zn h) p)) ∧ zs h1 = zs h + 1024 * u ∧ zn h1 = zn h + 1 := by
  have h8 : 8 ≤ zn h := by have := o.1; have := o.2.1; omega
  have d0 : (nI (2 * (512 * u)) = nI (zL h B)) = False := eq_false (fun z => by
    rw [l] at z
    have := (zi_eq (by omega) (by omega)).mp z
    omega)
  have n1 : (nI (2 * (512 * u))).toNatClampNeg = 2 * (512 * u) := zi_nat (by omega)
  have g1 : ¬ nI (2 * (512 * u)) < 0 := zi_neg (by omega)
  have l1 : (2 * (512 * u) ≤ 1000000) = True := eq_true (by omega)
  have c8 : (8 ≤ zn h) = True := eq_true h8
  have oB : isO (pN h 20 (2 * (512 * u))) B 20 := (cf_pN (S := fun _ _ => False) h 20 (2 * (512 * u))).O o
  have oN : isO (pN h 20 (2 * (512 * u))) (zn h) 20 := ⟨h8, Nat.lt_succ_self _, va_up_at⟩
  have lB : zL (pN h 20 (2 * (512 * u))) B = 512 * u := ((cf_pN (S := fun _ _ => False) h 20 (2 * (512 * u))).L o).trans l
  have lN : zL (pN h 20 (2 * (512 * u))) (zn h) = 2 * (512 * u) := va_up_at
  have eB : ∀ p, zE (pN h 20 (2 * (512 * u))) B p = zE h B p := fun p => (cf_pN (S := fun _ _ => False) h 20 (2 * (512 * u))).E o (fun z => z)
  have lt1 : nI (2 * (512 * u)) < nI (512 * u) ↔ 2 * (512 * u) < 512 * u := zi_lt (by omega) (by omega)
  have mn : (if nI (2 * (512 * u)) < nI (512 * u) then nI (2 * (512 * u)) else nI (512 * u)) = nI (512 * u) := if_neg (fun z => absurd (lt1.mp z) (by omega))
  have n5 : (nI (512 * u)).toNatClampNeg = 512 * u := zi_nat (by omega)
  have g5 : ¬ nI (512 * u) < 0 := zi_neg (by omega)
  refine ⟨pC (pN h 20 (2 * (512 * u))) B 0 (zn h) 0 (512 * u), ?_, ?_, ?_, ?_, fun p hp => ?_, fun p hp => ?_, ?_, rfl⟩
  · unfold f_J7_copyOf_9075b bh
    rw [ck_yes o, if_neg (of_eq_false d0), ck_yes h8, n1, ck_yes ⟨g1, by omega⟩]
    dsimp only
    rw [ck_yes oN, lB, mn, n5]
    rw [ck_yes ⟨⟨by decide, by decide, g5⟩, by show 0 + 512 * u ≤ _; omega, by show 0 + 512 * u ≤ zL _ (zn h); rw [lN]; omega⟩, ck_yes (fun i hi => by
      rw [eB]
      have := hb (0 + i) (by omega)
      have e : (0 : Int32).toNatClampNeg + i = 0 + i := rfl
      rw [e, ← this]
      exact fit20 _)]
    rfl
  · exact (cf_pN h 20 (2 * (512 * u))).tr2 (cf_pC (S := fun a _ => a = zn h) (fun _ => rfl)) (fun a j ha z => by omega)
  · exact oN
  · exact lN.trans (by omega)
  · rw [zE_pC, if_pos rfl, if_pos ⟨by omega, by omega⟩, eB]
    congr 1
    omega
  · rw [zE_pC, if_pos rfl]
    split
    · rw [eB]; exact hb _ (by omega)
    · have : zE (pN h 20 (2 * (512 * u))) (zn h) p = 0 := by
        show va_up (zE h) (zn h) (fun _ => 0) (zn h) p = 0
        rw [va_up_at]
      rw [this]
      show (0 : Int32).toInt8.toInt32 = 0
      decide
  · show zs h + 2 * (512 * u) = _
    omega
/-- one byte -/
theorem c_byte {h : Hp} {D B u num sz row t i : Nat} {fu : Int32} {b : Nat → Int32} {fuel rl : Nat} (y : dY h D B u num sz true fu b) (hD : D ≠ B) (hDr : D ≠ row) (oR : isO h row 20) (lR : zL h row = rl) (hi : i < rl) (hrl : rl < 2000000) (ht : t < 2000000) (hit : i < t) (hrB : row ≠ B) (hf : fu ≠ 0) (hsz : sz < 62800) :
    ∃ h1 B1 u1, f_X5_write_3 (fuel + 1) D row (nI t) (nI i) h = f_X5_write_3 fuel D row (nI t) (nI (i + 1)) h1 ∧ dY h1 D B1 u1 num (sz + 1) true (if fu = -1 then -1 else fu - 1) (bwf b sz (fun j => (zE h row j).toInt8.toInt32) i) ∧ (B1 = B ∨ zn h ≤ B1) ∧ cf (dyS D B) h h1 ∧ rmD h h1 u u1 := by
  obtain ⟨oD, y1, ⟨y2, oB, lB, hu, hu26⟩, ⟨y3, hle⟩, ⟨y4, y5⟩, y6, y7⟩ := y
  have ct : ¬ nI t ≤ nI i := zi_le0 (by omega) (by omega) (by omega)
  have d3 : ¬ zI h 603 D = 0 := by rw [y4, if_pos rfl]; decide
  have d4 : ¬ zI h 604 D = 0 := by rw [y5]; exact hf
  have ni : (nI i).toNatClampNeg = i := zi_nat (by omega)
  have gi : ¬ nI i < 0 := zi_neg (by omega)
  have ns : (nI sz).toNatClampNeg = sz := zi_nat (by omega)
  have gs : ¬ nI sz < 0 := zi_neg (by omega)
  -- the byte itself
  have put : ∀ (g : Hp) (B9 u9 : Nat), cf (dyS D B) h g → B9 ≠ D → B9 ≠ row → zR g 601 D = B9 → isO g B9 20 → zL g B9 = 512 * u9 → u9 ≤ 260 → sz < 512 * u9 → (∀ p, p < sz → zE g B9 p = b p) → (∀ p, p < 512 * u9 → bt8 (zE g B9 p)) → zI g 602 D = nI sz → zI g 603 D = 1 → zI g 604 D = fu → zI g 600 D = nI num →
      ∃ g1, f_X5_write_65 (f_X5_write_3 fuel) D row (nI t) (nI i) g = f_X5_write_3 fuel D row (nI t) (nI (i + 1)) g1 ∧ dY g1 D B9 u9 num (sz + 1) true (if fu = -1 then -1 else fu - 1) (bwf b sz (fun j => (zE h row j).toInt8.toInt32) i) ∧ cf (dyS D B9) g g1 ∧ zs g1 = zs g ∧ zn g1 = zn g := fun g B9 u9 fg hBD hBr e1 o9 l9 h26 h9 p6 p7 e2 e3 e4 e0 => by
    have oDg := fg.O oD
    have oRg := fg.O oR
    have lRg : zL g row = rl := (fg.L oR).trans lR
    have eRg : zE g row i = zE h row i := fg.E oR (by unfold dyS; omega)
    generalize hv : (zE h row i).toInt8.toInt32 = v
    have n9 : inR (nI sz) (zL g B9) := by
      show ¬ (nI sz < 0 ∨ zL g B9 ≤ (nI sz).toNatClampNeg)
      rw [ns, l9]
      rintro (z | z)
      · exact gs z
      · omega
    have nr : inR (nI i) (zL g row) := by
      show ¬ (nI i < 0 ∨ zL g row ≤ (nI i).toNatClampNeg)
      rw [ni, lRg]
      rintro (z | z)
      · exact gi z
      · omega
    generalize hfu1 : (if fu = -1 then (-1 : Int32) else fu - 1) = fu1
    refine ⟨pI (pI (pE g B9 sz v) 602 D (nI (sz + 1))) 604 D fu1, ?_, ?_, ?_, rfl, rfl⟩
    · have k4 : zI (pI (pE g B9 sz v) 602 D (nI (sz + 1))) 604 D = fu := by rw [zI_pI, if_neg (by omega)]; exact e4
      have k2 : zI (pE g B9 sz v) 602 D = nI sz := e2
      unfold f_X5_write_65 bh
      rw [ck_yes oDg, ck_yes oRg, ck_yes nr, e1, ck_yes o9, e2, ck_yes n9, ns, ni, eRg, hv]
      dsimp only
      rw [k2, zi_one, k4]
      unfold f_X5_write_107 f_X5_write_110 bh
      rw [ck_yes (show isO (pI (pE g B9 sz v) 602 D (nI (sz + 1))) D 6 from oDg), ck_yes (show isO (pI (pE g B9 sz v) 602 D (nI (sz + 1))) D 6 from oDg), zi_one, ← hfu1]
      split <;> rfl
    · refine ⟨oDg, ?_, ⟨?_, o9, l9, by omega, h26⟩, ⟨?_, by omega⟩, ⟨?_, ?_⟩, fun p hp => ?_, fun p hp => ?_⟩
      · rw [zI_pI, if_neg (by omega), zI_pI, if_neg (by omega)]; exact e0
      · exact e1
      · rw [zI_pI, if_neg (by omega), zI_pI, if_pos ⟨rfl, rfl⟩]
      · rw [zI_pI, if_neg (by omega), zI_pI, if_neg (by omega), if_pos rfl]; exact e3
      · rw [zI_pI, if_pos ⟨rfl, rfl⟩]
      · rw [zE_pI, zE_pI, zE_pE]
        unfold bwf
        by_cases cp : p = sz
        · rw [if_pos ⟨rfl, cp⟩, if_neg (by omega), cp, Nat.sub_self, Nat.add_zero]; exact hv.symm
        · rw [if_neg (fun z => cp z.2), if_pos (by omega)]; exact p6 p (by omega)
      · rw [zE_pI, zE_pI, zE_pE]
        split
        · rw [← hv]; exact i8_idem _
        · exact p7 p hp
    · exact ((cf_pE (Or.inr rfl)).tr (cf_pI (Or.inl ⟨rfl, by omega, by omega⟩))).tr (cf_pI (Or.inl ⟨rfl, by omega, by omega⟩))
  have start : f_X5_write_3 (fuel + 1) D row (nI t) (nI i) h = (if nI sz = nI (512 * u) then (f_J7_copyOf_9075b B (2 * nI sz) h).bind (fun q7 => ck (isO q7.2 D 6) (bh (pR q7.2 601 D q7.1) (fun h9 => f_X5_write_65 (f_X5_write_3 fuel) D row (nI t) (nI i) h9))) else f_X5_write_65 (f_X5_write_3 fuel) D row (nI t) (nI i) h) := by
    conv => lhs; unfold f_X5_write_3
    rw [if_neg ct, ck_yes oD, if_neg d3, if_neg d4, y2, ck_yes oB, y3, lB]
  rw [start]
  have e603 : zI h 603 D = 1 := by rw [y4, if_pos rfl]
  by_cases cs : sz = 512 * u
  · rw [if_pos (by rw [cs])]
    obtain ⟨g, a1, a2, a3, a4, a5, a6, a7, a8⟩ := c_grow oB lB hu (by omega) y7
    have e2s : (2 : Int32) * nI sz = nI (2 * (512 * u)) := by rw [cs]; exact zi_mul 2 _
    rw [e2s, a1]
    have oDg := a2.O oD
    have fg : cf (dyS D B) h (pR g 601 D (zn h)) := (a2.mono (fun _ _ _ z => z.elim)).tr (cf_pR (Or.inl ⟨rfl, by omega, by omega⟩))
    have ee : ∀ f, zI (pR g 601 D (zn h)) f D = zI h f D := fun f => a2.I oD (fun z => z)
    have e0 : ∀ p, zE (pR g 601 D (zn h)) (zn h) p = zE g (zn h) p := fun p => rfl
    have nD : zn h ≠ D := by have := oD.2.1; omega
    have nR : zn h ≠ row := by have := oR.2.1; omega
    obtain ⟨g1, b1, b2, b3, b4, b5⟩ := put (pR g 601 D (zn h)) (zn h) (2 * u) fg nD nR (by rw [zR_pR, if_pos ⟨rfl, rfl⟩]) a3 a4 (by omega) (by omega) (fun p hp => by rw [e0, a5 p (by omega)]; exact y6 p hp) (fun p hp => by rw [e0]; exact a6 p hp) (by rw [ee]; exact y3) (by rw [ee]; exact e603) (by rw [ee]; exact y5) (by rw [ee]; exact y1)
    refine ⟨g1, zn h, 2 * u, ?_, b2, Or.inr (Nat.le_refl _), fg.tr2 b3 (fun a j ha z => by unfold dyS at z ⊢; omega), ?_⟩
    · show ck (isO g D 6) (bh (pR g 601 D (zn h)) (fun h9 => f_X5_write_65 (f_X5_write_3 fuel) D row (nI t) (nI i) h9)) = _
      rw [ck_yes oDg]
      exact b1
    · have z1 : zs (pR g 601 D (zn h)) = zs g := rfl
      have z2 : zn (pR g 601 D (zn h)) = zn g := rfl
      unfold rmD
      omega
  · rw [if_neg (fun z => cs ((zi_eq (by omega) (by omega)).mp z))]
    obtain ⟨g1, b1, b2, b3, b4, b5⟩ := put h B u (cf.rf h) (Ne.symm hD) (Ne.symm hrB) y2 oB lB hu26 (by omega) y6 y7 y3 e603 y5 y1
    exact ⟨g1, B, u, b1, b2, Or.inl rfl, b3, by unfold rmD; omega⟩
theorem c_bytes {D num row t rl : Nat} (hDr : D ≠ row) (hrl : rl < 2000000) (ht : t < 2000000) : ∀ (n : Nat) (h : Hp) (B u sz i fuel : Nat) (fu : Int32) (b : Nat → Int32), dY h D B u num sz true fu b → D ≠ B → isO h row 20 → zL h row = rl → i + n ≤ rl → i + n ≤ t → row ≠ B → (fu = -1 ∨ ∃ k, k < 2147483648 ∧ fu = nI k ∧ n ≤ k) → sz + n ≤ 62800 →
    ∃ h1 B1 u1, f_X5_write_3 (fuel + n) D row (nI t) (nI i) h = f_X5_write_3 fuel D row (nI t) (nI (i + n)) h1 ∧ dY h1 D B1 u1 num (sz + n) true (if fu = -1 then -1 else fu - nI n) (bwf b sz (fun j => (zE h row j).toInt8.toInt32) i) ∧ (B1 = B ∨ zn h ≤ B1) ∧ cf (dyS D B) h h1 ∧ rmD h h1 u u1
  | 0, h, B, u, sz, i, fuel, fu, b, y, hD, oR, lR, hi, hit, hrB, hf, hsz => by
    refine ⟨h, B, u, rfl, ?_, Or.inl rfl, cf.rf h, rmD.rf h u⟩
    obtain ⟨oD, y1, y2, y3, ⟨y4, y5⟩, y6, y7⟩ := y
    refine ⟨oD, y1, y2, y3, ⟨y4, ?_⟩, fun p hp => ?_, y7⟩
    · rw [y5]
      split
      · next z => exact z
      · exact (Int32.sub_zero fu).symm
    · unfold bwf
      rw [if_pos (show p < sz from hp)]
      exact y6 p hp
  | n + 1, h, B, u, sz, i, fuel, fu, b, y, hD, oR, lR, hi, hit, hrB, hf, hsz => by
    have f0 : fu ≠ 0 := fun z => by
      rcases hf with q | ⟨k, k1, k2, k3⟩
      · rw [q] at z; exact absurd z (by decide)
      · rw [z] at k2
        have := (zi_eq (a := 0) (b := k) (by omega) (by omega)).mp k2
        omega
    obtain ⟨h1, B1, u1, a1, a2, a3, a4, a5⟩ := c_byte (fuel := fuel + n) (i := i) (t := t) y hD hDr oR lR (by omega) hrl ht (by omega) hrB f0 (by omega)
    have oD := y.1
    have nD : D ≠ B1 := by
      rcases a3 with z | z
      · rw [z]; exact hD
      · have := oD.2.1; omega
    have nR : row ≠ B1 := by
      rcases a3 with z | z
      · rw [z]; exact hrB
      · have := oR.2.1; omega
    have erow : ∀ j, zE h1 row j = zE h row j := fun j => a4.E oR (by unfold dyS; omega)
    obtain ⟨h2, B2, u2, b1, b2, b3, b4, b5⟩ := c_bytes hDr hrl ht n h1 B1 u1 (sz + 1) (i + 1) fuel _ _ a2 nD (a4.O oR) ((a4.L oR).trans lR) (by omega) (by omega) nR (by
      rcases hf with q | ⟨k, k1, k2, k3⟩
      · rw [if_pos q]; exact Or.inl rfl
      · right
        refine ⟨k - 1, by omega, ?_, by omega⟩
        rw [k2, if_neg (zi_ne1 k1)]
        exact zi_sub (b := 1) (by omega)) (by omega)
    refine ⟨h2, B2, u2, ?_, ?_, ?_, a4.tr2 b4 (fun a j ha z => ?_), a5.tr b5⟩
    · rw [show fuel + (n + 1) = fuel + n + 1 from rfl, a1, b1, show i + 1 + n = i + (n + 1) by omega]
    · rw [show sz + 1 + n = sz + (n + 1) by omega] at b2
      have ef : (if (if fu = -1 then (-1 : Int32) else fu - 1) = -1 then (-1 : Int32) else (if fu = -1 then -1 else fu - 1) - nI n) = if fu = -1 then -1 else fu - nI (n + 1) := by
        rcases hf with q | ⟨k, k1, k2, k3⟩
        · rw [if_pos q, if_pos rfl, if_pos q]
        · have e1 : fu - 1 = nI (k - 1) := by rw [k2]; exact zi_sub (b := 1) (by omega)
          have ne : fu ≠ -1 := by rw [k2]; exact zi_ne1 k1
          rw [if_neg ne, if_neg ne, e1, if_neg (zi_ne1 (by omega)), zi_sub (by omega), k2, zi_sub (by omega)]
          congr 1
          omega
      have eb : bwf (bwf b sz (fun j => (zE h row j).toInt8.toInt32) i) (sz + 1) (fun j => (zE h1 row j).toInt8.toInt32) (i + 1) = bwf b sz (fun j => (zE h row j).toInt8.toInt32) i := by
        funext p
        unfold bwf
        by_cases c : p < sz + 1
        · rw [if_pos c]
        · rw [if_neg c, if_neg (by omega)]
          show (zE h1 row (i + 1 + (p - (sz + 1)))).toInt8.toInt32 = (zE h row (i + (p - sz))).toInt8.toInt32
          rw [erow, show i + 1 + (p - (sz + 1)) = i + (p - sz) by omega]
      rw [ef, eb] at b2
      exact b2
    · rcases b3 with z | z
      · rw [z]; exact a3
      · have := a4.1
        exact Or.inr (by omega)
    · unfold dyS at z ⊢
      rcases a3 with q | q
      · rw [q] at z; exact z
      · omega
/-- the power fails -/
theorem c_down {h : Hp} {D B u num sz row t i fuel : Nat} {b : Nat → Int32} (y : dY h D B u num sz true 0 b) (ht : t < 2000000) (hit : i < t) : ∃ h1, f_X5_write_3 (fuel + 2) D row (nI t) (nI i) h = some h1 ∧ dY h1 D B u num sz false (-1) b ∧ cf (dyS D B) h h1 ∧ zs h1 = zs h ∧ zn h1 = zn h := by
  obtain ⟨oD, y1, y2, y3, ⟨y4, y5⟩, y6, y7⟩ := y
  have ct : ¬ nI t ≤ nI i := zi_le0 (by omega) (by omega) (by omega)
  have d3 : ¬ zI h 603 D = 0 := by rw [y4, if_pos rfl]; decide
  have z3 : zI (pI (pI h 603 D 0) 604 D (-1)) 603 D = 0 := by rw [zI_pI, if_neg (by omega), zI_pI, if_pos ⟨rfl, rfl⟩]
  refine ⟨pI (pI h 603 D 0) 604 D (-1), ?_, ⟨oD, ?_, y2, ⟨?_, y3.2⟩, ⟨?_, ?_⟩, y6, y7⟩, (cf_pI (Or.inl ⟨rfl, by omega, by omega⟩)).tr (cf_pI (Or.inl ⟨rfl, by omega, by omega⟩)), rfl, rfl⟩
  · conv => lhs; unfold f_X5_write_3
    rw [if_neg ct, ck_yes oD, if_neg d3, if_pos y5]
    unfold f_X5_write_110 bh
    dsimp only
    unfold f_X5_write_3
    rw [ck_yes (show isO (pI (pI h 603 D 0) 604 D (-1)) D 6 from oD), if_pos z3]
    split <;> rfl
  · rw [zI_pI, if_neg (by omega), zI_pI, if_neg (by omega)]; exact y1
  · rw [zI_pI, if_neg (by omega), zI_pI, if_neg (by omega)]; exact y3.1
  · rw [z3]; rfl
  · rw [zI_pI, if_pos ⟨rfl, rfl⟩]
/-- a record's byte as it is kept -/
def cRaw (r : Rec) (k : Nat) : Int32 := if k = 0 then nI (16 * rcN r + rcK r) else if k = 1 then nI (rcT r) >>> 8 else if k = 2 then nI (rcT r) else if k = 15 then 1
  else (if k < 7 then rcA r else if k < 11 then rcB r else rcC r) >>> nI (24 - 8 * ((k - 3) % 4))
def cBt (r : Rec) (k : Nat) : Int32 := (cRaw r k).toInt8.toInt32
abbrev r0 : Rec := (0, 0, 0, 0, 0, 0)
def dkRd (d : Dk) (k : Nat) : Rec := if k < (dkL d).length then (dkL d).getD k r0 else dkR d
def dkb (d : Dk) (p : Nat) : Int32 := cBt (dkRd d (p / 16)) (p % 16)
def dkC (h : Hp) (D B u num : Nat) (d : Dk) : Prop := dY h D B u num (dkSz d) (dkU d) (dkF d) (dkb d) ∧ dkT d < 16
theorem dkb_w1 {L : List Rec} {r R R1 : Rec} {u u1 : Bool} {f f1 : Int32} {T T1 p : Nat} (h : p < 16 * L.length) : dkb (L ++ [r], u1, f1, T1, R1) p = dkb (L, u, f, T, R) p := by
  have e1 : dkRd (L ++ [r], u1, f1, T1, R1) (p / 16) = L.getD (p / 16) r0 := by
    have : p / 16 < (L ++ [r]).length := by rw [List.length_append]; omega
    refine (if_pos this).trans ?_
    rw [List.getD_eq_getElem?_getD, List.getD_eq_getElem?_getD, List.getElem?_append_left (by omega)]
  have e2 : dkRd (L, u, f, T, R) (p / 16) = L.getD (p / 16) r0 := if_pos (show p / 16 < L.length by omega)
  unfold dkb
  rw [e1, e2]
theorem dkb_w2 {L : List Rec} {r R1 : Rec} {u1 : Bool} {f1 : Int32} {T1 p : Nat} (h : 16 * L.length ≤ p) (h2 : p < 16 * L.length + 16) : dkb (L ++ [r], u1, f1, T1, R1) p = cBt r (p % 16) := by
  have e1 : dkRd (L ++ [r], u1, f1, T1, R1) (p / 16) = r := by
    have : p / 16 < (L ++ [r]).length := by rw [List.length_append, List.length_singleton]; omega
    refine (if_pos this).trans ?_
    rw [List.getD_eq_getElem?_getD, show p / 16 = L.length by omega, List.getElem?_concat_length]
    rfl
  unfold dkb
  rw [e1]
theorem dkb_t1 {L : List Rec} {R R1 : Rec} {u u1 : Bool} {f f1 : Int32} {T T1 p : Nat} (h : p < 16 * L.length) : dkb (L, u1, f1, T1, R1) p = dkb (L, u, f, T, R) p := by
  have e1 : dkRd (L, u1, f1, T1, R1) (p / 16) = L.getD (p / 16) r0 := if_pos (show p / 16 < L.length by omega)
  have e2 : dkRd (L, u, f, T, R) (p / 16) = L.getD (p / 16) r0 := if_pos (show p / 16 < L.length by omega)
  unfold dkb
  rw [e1, e2]
theorem dkb_t2 {L : List Rec} {r : Rec} {u1 : Bool} {f1 : Int32} {T1 p : Nat} (h : 16 * L.length ≤ p) : dkb (L, u1, f1, T1, r) p = cBt r (p % 16) := by
  have e1 : dkRd (L, u1, f1, T1, r) (p / 16) = r := if_neg (by show ¬ p / 16 < L.length; omega)
  unfold dkb
  rw [e1]
theorem dkWrites_off (rs : List Rec) {d : Dk} (h : dkU d = false) : dkWrites d rs = d := by
  induction rs with
  | nil => rfl
  | cons r t ih =>
    show dkWrites (dkWrite d r) t = d
    have : dkWrite d r = d := by unfold dkWrite; rw [if_pos h]
    rw [this]; exact ih
theorem dY.eqb {h : Hp} {D B u num sz : Nat} {up : Bool} {fu : Int32} {b b1 : Nat → Int32} (y : dY h D B u num sz up fu b) (e : ∀ p, p < sz → b p = b1 p) : dY h D B u num sz up fu b1 := by
  obtain ⟨oD, y1, y2, y3, y4, y6, y7⟩ := y
  exact ⟨oD, y1, y2, y3, y4, fun p hp => (y6 p hp).trans (e p hp), y7⟩
theorem c_write_go {D num row t rl : Nat} (hDr : D ≠ row) (hrl : rl < 2000000) (ht : t < 2000000) (htr : t ≤ rl) : ∀ (rs : List Rec) (h : Hp) (d : Dk) (B u i fuel : Nat), dkC h D B u num d → dkOK d → D ≠ B → isO h row 20 → zL h row = rl → row ≠ B → i + 16 * rs.length = t → (∀ k, k < 16 * rs.length → zE h row (i + k) = cBt (rs.getD (k / 16) r0) (k % 16)) → 16 * ((dkL d).length + rs.length) + 16 ≤ 62800 → 16 * rs.length + 2 < fuel →
    ∃ h1 B1 u1, f_X5_write_3 fuel D row (nI t) (nI i) h = some h1 ∧ dkC h1 D B1 u1 num (dkWrites d rs) ∧ (B1 = B ∨ zn h ≤ B1) ∧ cf (dyS D B) h h1 ∧ rmD h h1 u u1
  | [], h, d, B, u, i, fuel, y, ok, hD, oR, lR, hrB, hi, hb, hs, hf => by
    obtain ⟨fuel, rfl⟩ : ∃ j, fuel = j + 1 := ⟨fuel - 1, by omega⟩
    have hi : i + 0 = t := hi
    have ct : nI t ≤ nI i := (zi_le (by omega) (by omega)).mpr (by omega)
    refine ⟨h, B, u, ?_, y, Or.inl rfl, cf.rf h, rmD.rf h u⟩
    unfold f_X5_write_3
    rw [if_pos ct]
  | r :: rs, h, d, B, u, i, fuel, y, ok, hD, oR, lR, hrB, hi, hb, hs, hf => by
    rw [List.length_cons] at hi hs hf hb
    have hr : ∀ k, k < 16 → zE h row (i + k) = cBt r k := fun k hk => by
      rw [hb k (by omega), show k / 16 = 0 by omega, show k % 16 = k by omega]
      rfl
    have hsrc : ∀ k, k < 16 → (zE h row (i + k)).toInt8.toInt32 = cBt r k := fun k hk => by rw [hr k hk]; exact i8_idem _
    have hrest : ∀ k, k < 16 * rs.length → zE h row (i + 16 + k) = cBt (rs.getD (k / 16) r0) (k % 16) := fun k hk => by
      rw [show i + 16 + k = i + (16 + k) by omega, hb (16 + k) (by omega), show (16 + k) % 16 = k % 16 by omega, show (16 + k) / 16 = k / 16 + 1 by omega, List.getD_cons_succ]
    cases hu : dkU d with
    | false =>
      rw [dkWrites_off _ hu]
      obtain ⟨fuel, rfl⟩ : ∃ j, fuel = j + 1 := ⟨fuel - 1, by omega⟩
      have ct : ¬ nI t ≤ nI i := zi_le0 (by omega) (by omega) (by omega)
      refine ⟨h, B, u, ?_, y, Or.inl rfl, cf.rf h, rmD.rf h u⟩
      obtain ⟨⟨oD, y1, y2, y3, ⟨y4, y5⟩, y6, y7⟩, -⟩ := y
      unfold f_X5_write_3
      rw [if_neg ct, ck_yes oD, if_pos (by rw [y4, hu]; rfl)]
    | true =>
      obtain ⟨hT, hF⟩ := ok hu
      obtain ⟨y, hT16⟩ := y
      rw [hu] at y
      have eS : dkSz d = 16 * (dkL d).length := by unfold dkSz; omega
      have oD := y.1
      by_cases ctn : dkF d ≠ -1 ∧ dkF d < 16
      · obtain ⟨k, k1, k2⟩ := zi_of (hF.resolve_left ctn.1)
        have k16 : k < 16 := by
          have z := ctn.2
          rw [k2] at z
          exact (zi_lt (b := 16) k1 (by omega)).mp z
        have ew : dkWrites d (r :: rs) = (dkL d, false, -1, k, r) := by
          show dkWrites (dkWrite d r) rs = _
          have : dkWrite d r = (dkL d, false, -1, k, r) := by
            unfold dkWrite
            rw [if_neg (by rw [hu]; exact fun z => Bool.noConfusion z), if_pos ctn, k2, zi_nat k1]
          rw [this]
          exact dkWrites_off rs rfl
        obtain ⟨f9, rfl⟩ : ∃ j, fuel = j + 2 + k := ⟨fuel - 2 - k, by omega⟩
        obtain ⟨h1, B1, u1, a1, a2, a3, a4, a5⟩ := c_bytes hDr hrl ht k h B u (dkSz d) i (f9 + 2) (dkF d) _ y hD oR lR (by omega) (by omega) hrB (Or.inr ⟨k, k1, k2, Nat.le_refl _⟩) (by omega)
        rw [if_neg ctn.1, k2, zi_sub (Nat.le_refl _), Nat.sub_self] at a2
        obtain ⟨h2, b1, b2, b3, b4, b5⟩ := c_down (fuel := f9) (row := row) (i := i + k) a2 ht (by omega)
        rw [ew]
        refine ⟨h2, B1, u1, by rw [a1, b1], ⟨?_, k16⟩, a3, a4.tr2 b3 (fun a j ha z => ?_), ?_⟩
        · show dY h2 D B1 u1 num (16 * (dkL d).length + k) false (-1) _
          rw [eS] at b2
          refine b2.eqb (fun p hp => ?_)
          unfold bwf
          by_cases cp : p < 16 * (dkL d).length
          · rw [if_pos cp]
            exact (dkb_t1 cp).symm
          · rw [if_neg cp, dkb_t2 (by omega)]
            have := hsrc (p - 16 * (dkL d).length) (by omega)
            rw [show p % 16 = p - 16 * (dkL d).length by omega]
            exact this
        · unfold dyS at z ⊢
          rcases a3 with q | q
          · rw [q] at z; exact z
          · omega
        · unfold rmD at a5 ⊢
          omega
      · have hfu : dkF d = -1 ∨ ∃ k, k < 2147483648 ∧ dkF d = nI k ∧ 16 ≤ k := by
          rcases hF with q | q
          · exact Or.inl q
          · obtain ⟨k, k1, k2⟩ := zi_of q
            refine Or.inr ⟨k, k1, k2, ?_⟩
            have nz : ¬ dkF d < 16 := fun z => ctn ⟨by rw [k2]; exact zi_ne1 k1, z⟩
            rw [k2] at nz
            have : ¬ nI k < nI 16 := nz
            rw [zi_lt k1 (by omega)] at this
            omega
        obtain ⟨f9, rfl⟩ : ∃ j, fuel = j + 16 := ⟨fuel - 16, by omega⟩
        obtain ⟨h1, B1, u1, a1, a2, a3, a4, a5⟩ := c_bytes hDr hrl ht 16 h B u (dkSz d) i f9 (dkF d) _ y hD oR lR (by omega) (by omega) hrB hfu (by omega)
        have ew : dkWrite d r = (dkL d ++ [r], true, (if dkF d = -1 then -1 else dkF d - 16), dkT d, dkR d) := by
          unfold dkWrite
          rw [if_neg (by rw [hu]; exact fun z => Bool.noConfusion z), if_neg ctn]
        have y1 : dkC h1 D B1 u1 num (dkWrite d r) := by
          refine ⟨?_, by rw [ew]; exact hT16⟩
          rw [ew]
          have sz1 : dkSz (dkL d ++ [r], true, (if dkF d = -1 then -1 else dkF d - 16), dkT d, dkR d) = dkSz d + 16 := by
            show 16 * (dkL d ++ [r]).length + dkT d = 16 * (dkL d).length + dkT d + 16
            rw [List.length_append, List.length_singleton]
            omega
          rw [sz1]
          refine a2.eqb (fun p hp => ?_)
          rw [eS] at hp ⊢
          unfold bwf
          by_cases cp : p < 16 * (dkL d).length
          · rw [if_pos cp]
            exact (dkb_w1 cp).symm
          · rw [if_neg cp, dkb_w2 (by omega) (by omega)]
            have := hsrc (p - 16 * (dkL d).length) (by omega)
            rw [show p % 16 = p - 16 * (dkL d).length by omega]
            exact this
        have nD : D ≠ B1 := by
          rcases a3 with z | z
          · rw [z]; exact hD
          · have := oD.2.1; omega
        have nR : row ≠ B1 := by
          rcases a3 with z | z
          · rw [z]; exact hrB
          · have := oR.2.1; omega
        have erow : ∀ j, zE h1 row j = zE h row j := fun j => a4.E oR (by unfold dyS; omega)
        have lw : (dkL (dkWrite d r)).length = (dkL d).length + 1 := by rw [ew]; exact List.length_append ..
        obtain ⟨h2, B2, u2, b1, b2, b3, b4, b5⟩ := c_write_go hDr hrl ht htr rs h1 (dkWrite d r) B1 u1 (i + 16) f9 y1 (dkOK_write r ok) nD (a4.O oR) ((a4.L oR).trans lR) nR (by omega) (fun k hk => by rw [erow]; exact hrest k hk) (by omega) (by omega)
        refine ⟨h2, B2, u2, by rw [a1, b1], b2, ?_, a4.tr2 b4 (fun a j ha z => ?_), a5.tr b5⟩
        · rcases b3 with z | z
          · rw [z]; exact a3
          · have := a4.1
            exact Or.inr (by omega)
        · unfold dyS at z ⊢
          rcases a3 with q | q
          · rw [q] at z; exact z
          · omega
theorem c_write {h : Hp} {D B u num row rl i : Nat} {d : Dk} {rs : List Rec} (y : dkC h D B u num d) (ok : dkOK d) (hD : D ≠ B) (hDr : D ≠ row) (hrB : row ≠ B) (oR : isO h row 20) (lR : zL h row = rl) (hrl : rl < 2000000) (htr : i + 16 * rs.length ≤ rl) (hb : ∀ k, k < 16 * rs.length → zE h row (i + k) = cBt (rs.getD (k / 16) r0) (k % 16)) (hs : 16 * ((dkL d).length + rs.length) + 16 ≤ 62800) :
    ∃ h1 B1 u1, f_X5_write D row (nI i) (nI (i + 16 * rs.length)) h = some h1 ∧ dkC h1 D B1 u1 num (dkWrites d rs) ∧ (B1 = B ∨ zn h ≤ B1) ∧ cf (dyS D B) h h1 ∧ rmD h h1 u u1 := by
  exact c_write_go hDr hrl (by omega) htr rs h d B u i fz y ok hD oR lR hrB rfl hb hs (fz_big (by omega))
/-! WORDS OUT OF BYTES -/
theorem b255 (i : Nat) (hi : i < 32) : (BitVec.ofNat 32 255).getLsbD i = decide (i < 8) := by
  rw [BitVec.getLsbD_ofNat]
  have h1 : (255 : Nat) = 2 ^ 8 - 1 := rfl
  rw [h1, Nat.testBit_two_pow_sub_one]
  simp [hi]
theorem gb_0 (a : Int32) (i : Nat) (hi : i < 32) : (a &&& 255).toBitVec.getLsbD i = (decide (i < 8) && a.toBitVec.getLsbD i) := by
  show (a.toBitVec &&& BitVec.ofNat 32 255).getLsbD i = _
  rw [BitVec.getLsbD_and, b255 i hi, Bool.and_comm]
theorem gb_s {a : Int32} {s : Int32} {n : Nat} (e : (a >>> s).toBitVec = a.toBitVec.sshiftRight n) (hn : n ≤ 24) (i : Nat) (hi : i < 32) : ((a >>> s) &&& 255).toBitVec.getLsbD i = (decide (i < 8) && a.toBitVec.getLsbD (n + i)) := by
  rw [gb_0 _ i hi, e]
  by_cases c : i < 8
  · rw [BitVec.getLsbD_sshiftRight]
    simp [show n + i < 32 by omega, show ¬ 32 ≤ i by omega]
  · rw [decide_eq_false c, Bool.false_and, Bool.false_and]
theorem sh24 (a : Int32) : (a >>> 24).toBitVec = a.toBitVec.sshiftRight 24 := rfl
theorem sh16 (a : Int32) : (a >>> 16).toBitVec = a.toBitVec.sshiftRight 16 := rfl
theorem sh8 (a : Int32) : (a >>> 8).toBitVec = a.toBitVec.sshiftRight 8 := rfl
theorem sl24 (a : Int32) : (a <<< ((24 : Int32) &&& 31)).toBitVec = a.toBitVec <<< 24 := rfl
theorem sl16 (a : Int32) : (a <<< ((16 : Int32) &&& 31)).toBitVec = a.toBitVec <<< 16 := rfl
theorem sl8 (a : Int32) : (a <<< ((8 : Int32) &&& 31)).toBitVec = a.toBitVec <<< 8 := rfl
theorem word_of (a : Int32) : ((((a >>> 24 &&& 255) <<< ((24 : Int32) &&& 31)) ||| ((a >>> 16 &&& 255) <<< ((16 : Int32) &&& 31))) ||| ((a >>> 8 &&& 255) <<< ((8 : Int32) &&& 31))) ||| (a &&& 255) = a := by
  apply Int32.toBitVec_inj.mp
  apply BitVec.eq_of_getLsbD_eq
  intro i hi
  show ((((a >>> 24 &&& 255) <<< ((24 : Int32) &&& 31)).toBitVec ||| ((a >>> 16 &&& 255) <<< ((16 : Int32) &&& 31)).toBitVec) ||| ((a >>> 8 &&& 255) <<< ((8 : Int32) &&& 31)).toBitVec ||| (a &&& 255).toBitVec).getLsbD i = _
  rw [sl24, sl16, sl8, BitVec.getLsbD_or, BitVec.getLsbD_or, BitVec.getLsbD_or, BitVec.getLsbD_shiftLeft, BitVec.getLsbD_shiftLeft, BitVec.getLsbD_shiftLeft, gb_0 _ i hi, gb_s (sh24 a) (by omega) _ (by omega), gb_s (sh16 a) (by omega) _ (by omega), gb_s (sh8 a) (by omega) _ (by omega)]
  by_cases c1 : i < 8
  · simp [c1, show i < 24 by omega, show i < 16 by omega, hi]
  · by_cases c2 : i < 16
    · simp [c1, c2, show i < 24 by omega, hi, show i - 8 < 8 by omega, show 8 + (i - 8) = i by omega]
    · by_cases c3 : i < 24
      · simp [c1, c2, c3, hi, show ¬ i - 8 < 8 by omega, show i - 16 < 8 by omega, show 16 + (i - 16) = i by omega]
      · simp [c1, c2, c3, hi, show ¬ i - 8 < 8 by omega, show ¬ i - 16 < 8 by omega, show i - 24 < 8 by omega, show 24 + (i - 24) = i by omega]
theorem term_of {T : Nat} (hT : T < 65536) : ((nI T >>> 8 &&& 255) <<< ((8 : Int32) &&& 31)) ||| (nI T &&& 255) = nI T := by
  apply Int32.toBitVec_inj.mp
  apply BitVec.eq_of_getLsbD_eq
  intro i hi
  show (((nI T >>> 8 &&& 255) <<< ((8 : Int32) &&& 31)).toBitVec ||| (nI T &&& 255).toBitVec).getLsbD i = _
  rw [sl8, BitVec.getLsbD_or, BitVec.getLsbD_shiftLeft, gb_0 _ i hi, gb_s (sh8 (nI T)) (by omega) _ (by omega)]
  by_cases c1 : i < 8
  · simp [c1, hi]
  · by_cases c2 : i < 16
    · simp [c1, hi, show i - 8 < 8 by omega, show 8 + (i - 8) = i by omega]
    · have : (nI T).toBitVec.getLsbD i = false := by
        show (BitVec.ofNat 32 T).getLsbD i = false
        rw [BitVec.getLsbD_ofNat]
        have : T.testBit i = false := Nat.testBit_lt_two_pow (Nat.lt_of_lt_of_le hT (by
          have : (65536 : Nat) = 2 ^ 16 := rfl
          rw [this]
          exact Nat.pow_le_pow_right (by omega) (by omega)))
        rw [this, Bool.and_false]
      rw [this]
      simp [c1, hi, show ¬ i - 8 < 8 by omega]
theorem byte_of {n : Nat} (hn : n < 256) : nI n &&& 255 = nI n := by
  apply Int32.toBitVec_inj.mp
  apply BitVec.eq_of_getLsbD_eq
  intro i hi
  rw [gb_0 _ i hi]
  by_cases c1 : i < 8
  · simp [c1]
  · have : (nI n).toBitVec.getLsbD i = false := by
      show (BitVec.ofNat 32 n).getLsbD i = false
      rw [BitVec.getLsbD_ofNat]
      have : n.testBit i = false := Nat.testBit_lt_two_pow (Nat.lt_of_lt_of_le hn (by
        have : (256 : Nat) = 2 ^ 8 := rfl
        rw [this]
        exact Nat.pow_le_pow_right (by omega) (by omega)))
      rw [this, Bool.and_false]
    rw [this, Bool.and_false]
/-- records that fit into their bytes -/
def rcM (r : Rec) : Prop := rcN r < 16 ∧ rcK r < 16 ∧ rcT r < 65536
theorem cB_and (r : Rec) (k : Nat) : cBt r k &&& 255 = cRaw r k &&& 255 := i8_and _
theorem cB_0 {r : Rec} (h : rcM r) : cBt r 0 &&& 255 = nI (16 * rcN r + rcK r) := by
  rw [cB_and]
  have : cRaw r 0 = nI (16 * rcN r + rcK r) := if_pos rfl
  rw [this, byte_of (by have := h.1; have := h.2.1; omega)]
theorem cRaw_1 (r : Rec) : cRaw r 1 = nI (rcT r) >>> 8 := rfl
theorem cRaw_2 (r : Rec) : cRaw r 2 = nI (rcT r) := rfl
theorem cB_T {r : Rec} (h : rcM r) : ((cBt r 1 &&& 255) <<< ((8 : Int32) &&& 31)) ||| (cBt r 2 &&& 255) = nI (rcT r) := by
  rw [cB_and, cB_and, cRaw_1, cRaw_2]
  exact term_of h.2.2
theorem s24 : (nI 24 : Int32) = 24 := rfl
theorem s0 (a : Int32) : a >>> nI 0 = a := by
  apply Int32.toBitVec_inj.mp
  show a.toBitVec.sshiftRight 0 = a.toBitVec
  exact BitVec.sshiftRight_zero
theorem cB_W (r : Rec) (g : Nat) (v : Int32) (hg : (g = 3 ∧ v = rcA r) ∨ (g = 7 ∧ v = rcB r) ∨ (g = 11 ∧ v = rcC r)) : ((((cBt r g &&& 255) <<< ((24 : Int32) &&& 31)) ||| ((cBt r (g + 1) &&& 255) <<< ((16 : Int32) &&& 31))) ||| ((cBt r (g + 2) &&& 255) <<< ((8 : Int32) &&& 31))) ||| (cBt r (g + 3) &&& 255) = v := by
  rw [cB_and, cB_and, cB_and, cB_and]
  have e : cRaw r g = v >>> 24 ∧ cRaw r (g + 1) = v >>> 16 ∧ cRaw r (g + 2) = v >>> 8 ∧ cRaw r (g + 3) = v := by
    rcases hg with ⟨rfl, rfl⟩ | ⟨rfl, rfl⟩ | ⟨rfl, rfl⟩
    · exact ⟨rfl, rfl, rfl, s0 _⟩
    · exact ⟨rfl, rfl, rfl, s0 _⟩
    · exact ⟨rfl, rfl, rfl, s0 _⟩
  rw [e.1, e.2.1, e.2.2.1, e.2.2.2]
  exact word_of v
/-- records are alike if their bytes are -/
theorem cB_inj {r q : Rec} (hr : rcM r) (hq : rcM q) (h : ∀ k, k < 16 → cBt r k = cBt q k) : r = q := by
  have e0 : nI (16 * rcN r + rcK r) = nI (16 * rcN q + rcK q) := by rw [← cB_0 hr, ← cB_0 hq, h 0 (by omega)]
  have e0 := (zi_eq (by have := hr.1; have := hr.2.1; omega) (by have := hq.1; have := hq.2.1; omega)).mp e0
  have eT : nI (rcT r) = nI (rcT q) := by rw [← cB_T hr, ← cB_T hq, h 1 (by omega), h 2 (by omega)]
  have eT := (zi_eq (by have := hr.2.2; omega) (by have := hq.2.2; omega)).mp eT
  have eA : rcA r = rcA q := by
    rw [← cB_W r 3 _ (Or.inl ⟨rfl, rfl⟩), ← cB_W q 3 _ (Or.inl ⟨rfl, rfl⟩), h 3 (by omega), h (3 + 1) (by omega), h (3 + 2) (by omega), h (3 + 3) (by omega)]
  have eB : rcB r = rcB q := by
    rw [← cB_W r 7 _ (Or.inr (Or.inl ⟨rfl, rfl⟩)), ← cB_W q 7 _ (Or.inr (Or.inl ⟨rfl, rfl⟩)), h 7 (by omega), h (7 + 1) (by omega), h (7 + 2) (by omega), h (7 + 3) (by omega)]
  have eC : rcC r = rcC q := by
    rw [← cB_W r 11 _ (Or.inr (Or.inr ⟨rfl, rfl⟩)), ← cB_W q 11 _ (Or.inr (Or.inr ⟨rfl, rfl⟩)), h 11 (by omega), h (11 + 1) (by omega), h (11 + 2) (by omega), h (11 + 3) (by omega)]
  have n1 := hr.1
  have n2 := hq.1
  have k1 := hr.2.1
  have k2 := hq.2.1
  obtain ⟨rn, rk, rt, ra, rb, rc⟩ := r
  obtain ⟨qn, qk, qt, qa, qb, qc⟩ := q
  have e0 : 16 * rn + rk = 16 * qn + qk := e0
  have k1 : rk < 16 := k1
  have k2 : qk < 16 := k2
  have eN : rn = qn := by omega
  have eK : rk = qk := by omega
  have eT : rt = qt := eT
  have eA : ra = qa := eA
  have eB : rb = qb := eB
  have eC : rc = qc := eC
  rw [eN, eK, eT, eA, eB, eC]
/-- the byte that is shown -/
theorem cB_show {r : Rec} (hr : rcM r) {k : Nat} (hk : k < 16) : cBt r k &&& 255 = rcBt r k := by
  by_cases c0 : k = 0
  · rw [c0, cB_0 hr]; rfl
  · rw [cB_and]
    unfold cRaw rcBt btO
    rw [if_neg c0, if_neg c0]
    by_cases c1 : k = 1
    · rw [if_pos c1, if_pos (show k < 3 by omega), c1]; rfl
    · rw [if_neg c1]
      by_cases c2 : k = 2
      · rw [if_pos c2, if_pos (show k < 3 by omega), c2]
        show nI (rcT r) &&& 255 = (nI (rcT r) >>> nI 0) &&& 255
        rw [s0]
      · rw [if_neg c2, if_neg (show ¬ k < 3 by omega)]
        by_cases c15 : k = 15
        · rw [if_pos c15, if_pos c15]; rfl
        · rw [if_neg c15, if_neg c15]
          generalize (if k < 7 then rcA r else if k < 11 then rcB r else rcC r) = v
          have hm : (k - 3) % 4 < 4 := Nat.mod_lt _ (by decide)
          generalize (k - 3) % 4 = m at hm
          have : m = 0 ∨ m = 1 ∨ m = 2 ∨ m = 3 := by omega
          rcases this with rfl | rfl | rfl | rfl <;> rfl
/-! THE CLASS'S OBJECTS: where they lie, and whose they are -/
def shA (s : Nat) : Nat := 32 + 146 * s
def ow0 (a : Nat) : Nat := if a < 32 then 100 else if a < 616 then (if 5 ≤ (a - 32) % 146 ∧ (a - 32) % 146 ≤ 7 then 10 * ((a - 32) / 146) + (a - 32) % 146 else if 9 ≤ (a - 32) % 146 ∧ (a - 32) % 146 ≤ 17 ∧ (a - 32) % 146 % 2 = 1 then 10 * ((a - 32) / 146) + ((a - 32) % 146 - 9) / 2 else 10 * ((a - 32) / 146) + 8) else 101
def owS (own : Nat → Nat) : Prop := ∀ a, a < 672 → own a = ow0 a
theorem ow_at {own : Nat → Nat} (w : owS own) {s o : Nat} (hs : s < 4) (ho : o < 146) (h1 : ¬ (5 ≤ o ∧ o ≤ 7)) (h2 : ¬ (9 ≤ o ∧ o ≤ 17 ∧ o % 2 = 1)) : own (shA s + o) = 10 * s + 8 := by
  have e1 : (shA s + o - 32) % 146 = o := by unfold shA; omega
  have e2 : (shA s + o - 32) / 146 = s := by unfold shA; omega
  rw [w _ (by unfold shA; omega)]
  unfold ow0
  rw [if_neg (by unfold shA; omega), if_pos (by unfold shA; omega), e1, e2, if_neg h1, if_neg h2]
theorem ow_low {own : Nat → Nat} (w : owS own) {a : Nat} (h : a < 32) : own a = 100 := by
  rw [w a (by omega)]
  exact if_pos h
theorem ow_hi {own : Nat → Nat} (w : owS own) {a : Nat} (h : 616 ≤ a) (h2 : a < 672) : own a = 101 := by
  rw [w a h2]
  unfold ow0
  rw [if_neg (by omega), if_neg (by omega)]
/-- the objects of a shard that never change -/
def stC (h : Hp) (s : Nat) : Prop := (isO h (shA s) 7 ∧ zI h 700 (shA s) = nI s ∧ zR h 701 (shA s) = 14 ∧ zR h 702 (shA s) = 15 ∧ zR h 703 (shA s) = shA s + 1 ∧ zR h 704 (shA s) = shA s + 2 ∧ zR h 705 (shA s) = shA s + 3 ∧ zR h 706 (shA s) = shA s + 4) ∧
  (isO h (shA s + 1) 25 ∧ zL h (shA s + 1) = 5 ∧ ∀ r, r < 5 → zQ h (shA s + 1) r = shA s + (8 + 2 * r)) ∧ (isO h (shA s + 2) 28 ∧ zL h (shA s + 2) = 16 ∧ ∀ n, n < 16 → zQ h (shA s + 2) n = shA s + (18 + 8 * n)) ∧ (isO h (shA s + 3) 20 ∧ zL h (shA s + 3) = 16) ∧ isO h (shA s + 4) 3
def scC (h : Hp) (s : Nat) (q : Shd) : Prop := zI h 707 (shA s) = nI (shZ q) ∧ zI h 708 (shA s) = shL q ∧ zI h 709 (shA s) = nI (shT q) ∧ zI h 710 (shA s) = nI (shN q) ∧ zJ h 711 (shA s) = Int64.ofNat (shQ q)
/-- its records fit into their bytes -/
def dkM (d : Dk) : Prop := (∀ r ∈ dkL d, rcM r) ∧ (dkT d ≠ 0 → rcM (dkR d))
theorem dkM_write {d : Dk} {r : Rec} (h : dkM d) (hr : rcM r) : dkM (dkWrite d r) := by
  unfold dkWrite
  split
  · exact h
  · split
    · exact ⟨h.1, fun _ => hr⟩
    · refine ⟨fun x hx => ?_, h.2⟩
      rcases List.mem_append.mp hx with z | z
      · exact h.1 x z
      · rw [List.mem_singleton.mp z]; exact hr
theorem dkM_writes (rs : List Rec) {d : Dk} (h : dkM d) (hr : ∀ r ∈ rs, rcM r) : dkM (dkWrites d rs) := by
  induction rs generalizing d with
  | nil => exact h
  | cons a t ih => exact ih (dkM_write h (hr a (List.mem_cons_self ..))) (fun x hx => hr x (List.mem_cons_of_mem _ hx))
theorem dkM_alike {d l : Dk} (h : dkM d) (hl : dkM l) : dkM (dkAlike d l) := by
  unfold dkAlike
  refine dkM_writes _ ⟨fun x hx => h.1 x (List.mem_of_mem_take hx), fun z => absurd rfl z⟩ (fun x hx => hl.1 x (List.mem_of_mem_drop hx))
def dkO (h : Hp) (own : Nat → Nat) (s r u : Nat) (d : Dk) : Prop := ∃ B, dkC h (shA s + (8 + 2 * r)) B u r d ∧ own B = 10 * s + r ∧ dkM d
/-- a workflow at w: what never changes, its events, where it stands, its task -/
def wfT (h : Hp) (w num : Nat) : Prop := (isO h w 10 ∧ zI h 1000 w = nI num ∧ zR h 1001 w = w + 1 ∧ zR h 1002 w = w + 2 ∧ zR h 1003 w = w + 7) ∧ (isO h (w + 1) 22 ∧ zL h (w + 1) = 8) ∧
  (isO h (w + 2) 2 ∧ zR h 200 (w + 2) = w + 3 ∧ zR h 201 (w + 2) = w + 4 ∧ zR h 202 (w + 2) = w + 5 ∧ zR h 203 (w + 2) = w + 6) ∧ (isO h (w + 3) 22 ∧ isO h (w + 4) 22 ∧ isO h (w + 5) 22 ∧ isO h (w + 6) 22) ∧ (zL h (w + 3) = 60 ∧ zL h (w + 4) = 60 ∧ zL h (w + 5) = 60 ∧ zL h (w + 6) = 60) ∧ isO h (w + 7) 9
def hsD (h : Hp) (w : Nat) (es : List Evt) : Prop := (zI h 204 (w + 2) = nI es.length ∧ es.length ≤ 60) ∧ ∀ (k : Nat) (e : Evt), es[k]? = some e → zE h (w + 3) k = nI e.1 ∧ zE h (w + 4) k = e.2.1 ∧ zE h (w + 5) k = e.2.2.1 ∧ zE h (w + 6) k = e.2.2.2
def wkD (h : Hp) (w : Nat) (W : Wkr) : Prop := (∀ v, v < 8 → zE h (w + 1) v = wkV W v) ∧ zI h 1005 w = nI (wkS W) ∧ zI h 1006 w = nI (wkN W) ∧ zI h 1007 w = nI (wkP W) ∧ (wkP W = 1 ∨ wkP W = 3 → zI h 1008 w = wkA W) ∧ zI h 1009 w = nI (wkT W) ∧ zI h 1010 w = nI (wkC W) ∧ zI h 1011 w = wkO W
def tkD (h : Hp) (w : Nat) (t : Tsk) : Prop := zI h 900 (w + 7) = t.1 ∧ zI h 901 (w + 7) = t.2.1 ∧ zI h 902 (w + 7) = t.2.2.1 ∧ zI h 903 (w + 7) = t.2.2.2.1 ∧ zI h 904 (w + 7) = t.2.2.2.2.1 ∧ zI h 905 (w + 7) = t.2.2.2.2.2
def wfC (h : Hp) (w num : Nat) (f : Flw) : Prop := wfT h w num ∧ hsD h w (flE f) ∧ wkD h w (flW f) ∧ tkD h w (flT f)
/-- a program at p -/
def prC (h : Hp) (own : Nat → Nat) (p : Nat) (P : Prg) : Prop := (isO h p 5 ∧ own p = 102 ∧ zI h 500 p = nI P.length) ∧ ∃ c, (zR h 501 p = c ∧ isO h c 22 ∧ own c = 102 ∧ zL h c = 8 * P.length) ∧ ∀ j, j < P.length → zE h c (8 * j) = (stpAt P j).1 ∧ zE h c (8 * j + 1) = (stpAt P j).2.1 ∧ zE h c (8 * j + 2) = (stpAt P j).2.2.1 ∧ zE h c (8 * j + 4) = (stpAt P j).2.2.2.1.1 ∧ zE h c (8 * j + 5) = (stpAt P j).2.2.2.1.2 ∧ zE h c (8 * j + 6) = (stpAt P j).2.2.2.2.1 ∧ zE h c (8 * j + 7) = (stpAt P j).2.2.2.2.2
def obC (h : Hp) (own : Nat → Nat) (s v : Nat) (O : List (Nat × Nat × Nat)) : Prop := ∃ a b c, (zR h 300 (shA s + 4) = a ∧ zR h 301 (shA s + 4) = b ∧ zR h 302 (shA s + 4) = c) ∧ (isO h a 22 ∧ isO h b 22 ∧ isO h c 22) ∧ (own a = 10 * s + 5 ∧ own b = 10 * s + 6 ∧ own c = 10 * s + 7) ∧ (zL h a = 16 * v ∧ zL h b = 16 * v ∧ zL h c = 16 * v ∧ 1 ≤ v ∧ v ≤ 200) ∧ (zI h 303 (shA s + 4) = nI O.length ∧ O.length ≤ 16 * v) ∧ ∀ (k : Nat) (m : Nat × Nat × Nat), O[k]? = some m → zE h a k = nI m.1 ∧ zE h b k = nI m.2.1 ∧ zE h c k = nI m.2.2
/-- a shard of the heap -/
def shC (h : Hp) (own : Nat → Nat) (s : Nat) (u : Nat → Nat) (v : Nat) (q : Shd) : Prop := stC h s ∧ scC h s q ∧ (∀ r, r < 5 → dkO h own s r (u r) (shD q r)) ∧ (∀ n, n < 16 → wfC h (shA s + (18 + 8 * n)) (s + 4 * n) (shF q n)) ∧ (shN q ≤ 16 ∧ ∀ n, n < shN q → prC h own (zR h 1004 (shA s + (18 + 8 * n))) (flP (shF q n))) ∧ obC h own s v (shO q)
/-- the versions of the programs, and the time -/
def vsC (h : Hp) (own : Nat → Nat) (vs : Nat → List Prg) : Prop := (isO h 15 27 ∧ zL h 15 = 8) ∧ ∀ p, p < 8 → zQ h 15 p = 16 + 2 * p ∧ isO h (16 + 2 * p) 8 ∧ zR h 800 (16 + 2 * p) = 17 + 2 * p ∧ isO h (17 + 2 * p) 0 ∧ zI h 2 (17 + 2 * p) = nI (vs p).length ∧ ∃ d, zR h 1 (17 + 2 * p) = d ∧ (vs p ≠ [] → isO h d 29 ∧ own d = 102 ∧ (vs p).length ≤ zL h d) ∧ ∀ (k : Nat) (P : Prg), (vs p)[k]? = some P → prC h own (zQ h d k) P
def ckC (h : Hp) (now : Int32) : Prop := isO h 14 1 ∧ zI h 100 14 = now
def cxC (h : Hp) (own : Nat → Nat) (vs : Nat → List Prg) (now : Int32) : Prop := owS own ∧ (672 ≤ zn h) ∧ vsC h own vs ∧ ckC h now
/-! what an act on one shard leaves -/
def exO (own own1 : Nat → Nat) (h : Hp) : Prop := ∀ a, a < zn h → own1 a = own a
theorem exO.rf (own : Nat → Nat) (h : Hp) : exO own own h := fun _ _ => rfl
theorem exO.tr {own own1 own2 : Nat → Nat} {h h1 : Hp} (p : exO own own1 h) (q : exO own1 own2 h1) (l : zn h ≤ zn h1) : exO own own2 h := fun a ha => (q a (by omega)).trans (p a ha)
theorem prC.on {h h1 : Hp} {own own1 : Nat → Nat} {S : Nat → Nat → Prop} {p : Nat} {P : Prg} (q : prC h own p P) (f : cf S h h1) (e : exO own own1 h) (hS : ∀ a j, own a = 102 → ¬ S a j) : prC h1 own1 p P := by
  obtain ⟨⟨a1, a2, a3⟩, c, ⟨b1, b2, b3, b4⟩, d⟩ := q
  refine ⟨⟨f.O a1, (e p a1.2.1).trans a2, (f.I a1 (hS p 500 a2)).trans a3⟩, c, ⟨(f.R a1 (hS p 501 a2)).trans b1, f.O b2, (e c b2.2.1).trans b3, (f.L b2).trans b4⟩, fun j hj => ?_⟩
  obtain ⟨d1, d2, d3, d4, d5, d6, d7⟩ := d j hj
  have z : ∀ i, zE h1 c i = zE h c i := fun i => f.E b2 (hS c i b3)
  rw [z, z, z, z, z, z, z]
  exact ⟨d1, d2, d3, d4, d5, d6, d7⟩
theorem vsC.on {h h1 : Hp} {own own1 : Nat → Nat} {S : Nat → Nat → Prop} {vs : Nat → List Prg} (q : vsC h own vs) (w : owS own) (f : cf S h h1) (e : exO own own1 h) (hS : ∀ a j, own a = 102 ∨ a < 32 → ¬ S a j) : vsC h1 own1 vs := by
  obtain ⟨⟨a1, a2⟩, b⟩ := q
  refine ⟨⟨f.O a1, (f.L a1).trans a2⟩, fun p hp => ?_⟩
  obtain ⟨b1, b2, b3, b4, b5, d, b6, b7, b8⟩ := b p hp
  refine ⟨(f.Q a1 (hS _ _ (Or.inr (by omega)))).trans b1, f.O b2, (f.R b2 (hS _ _ (Or.inr (by omega)))).trans b3, f.O b4, (f.I b4 (hS _ _ (Or.inr (by omega)))).trans b5, d, (f.R b4 (hS _ _ (Or.inr (by omega)))).trans b6, fun z => ?_, fun k P hk => ?_⟩
  · obtain ⟨c1, c2, c3⟩ := b7 z
    exact ⟨f.O c1, (e d c1.2.1).trans c2, by rw [f.L c1]; exact c3⟩
  · have ne : vs p ≠ [] := fun z => by rw [z] at hk; simp at hk
    obtain ⟨c1, c2, c3⟩ := b7 ne
    rw [f.Q c1 (hS _ _ (Or.inl c2))]
    exact (b8 k P hk).on f e (fun a j ha => hS a j (Or.inl ha))
theorem owS.on {own own1 : Nat → Nat} {h : Hp} (w : owS own) (e : exO own own1 h) (hz : 672 ≤ zn h) : owS own1 := fun a ha => (e a (by omega)).trans (w a ha)
theorem cxC.on {h h1 : Hp} {own own1 : Nat → Nat} {S : Nat → Nat → Prop} {vs : Nat → List Prg} {now : Int32} (q : cxC h own vs now) (f : cf S h h1) (e : exO own own1 h) (hS : ∀ a j, own a = 102 ∨ a < 32 → ¬ S a j) : cxC h1 own1 vs now := by
  obtain ⟨a1, a2, a3, a4, a5⟩ := q
  exact ⟨a1.on e a2, Nat.le_trans a2 f.1, a3.on a1 f e hS, f.O a4, (f.I a4 (hS _ _ (Or.inr (by omega)))).trans a5⟩
theorem dY.on {h h1 : Hp} {S : Nat → Nat → Prop} {D B u num sz : Nat} {up : Bool} {fu : Int32} {b : Nat → Int32} (y : dY h D B u num sz up fu b) (f : cf S h h1) (hD : ∀ j, 600 ≤ j → j ≤ 604 → ¬ S D j) (hB : ∀ j, ¬ S B j) : dY h1 D B u num sz up fu b := by
  obtain ⟨oD, y1, ⟨y2, oB, lB, hu⟩, ⟨y3, hle⟩, ⟨y4, y5⟩, y6, y7⟩ := y
  have z : ∀ i, zE h1 B i = zE h B i := fun i => f.E oB (hB i)
  exact ⟨f.O oD, (f.I oD (hD _ (by omega) (by omega))).trans y1, ⟨(f.R oD (hD _ (by omega) (by omega))).trans y2, f.O oB, (f.L oB).trans lB, hu⟩, ⟨(f.I oD (hD _ (by omega) (by omega))).trans y3, hle⟩, ⟨(f.I oD (hD _ (by omega) (by omega))).trans y4, (f.I oD (hD _ (by omega) (by omega))).trans y5⟩, fun p hp => (z p).trans (y6 p hp), fun p hp => by rw [z]; exact y7 p hp⟩
theorem dkO.on {h h1 : Hp} {own own1 : Nat → Nat} {S : Nat → Nat → Prop} {s r u : Nat} {d : Dk} (q : dkO h own s r u d) (f : cf S h h1) (e : exO own own1 h) (hD : ∀ j, 600 ≤ j → j ≤ 604 → ¬ S (shA s + (8 + 2 * r)) j) (hB : ∀ a j, own a = 10 * s + r → ¬ S a j) : dkO h1 own1 s r u d := by
  obtain ⟨B, ⟨y, t⟩, o, m⟩ := q
  exact ⟨B, ⟨y.on f hD (fun j => hB B j o), t⟩, (e B y.2.2.1.2.1.2.1).trans o, m⟩
theorem wfT.on {h h1 : Hp} {S : Nat → Nat → Prop} {w num : Nat} (q : wfT h w num) (f : cf S h h1) (h1s : ∀ j, 1000 ≤ j → j ≤ 1003 → ¬ S w j) (h2s : ∀ j, 200 ≤ j → j ≤ 203 → ¬ S (w + 2) j) : wfT h1 w num := by
  obtain ⟨⟨a1, a2, a3, a4, a5⟩, ⟨b1, b2⟩, ⟨c1, c2, c3, c4, c5⟩, ⟨d1, d2, d3, d4⟩, ⟨e1, e2, e3, e4⟩, g⟩ := q
  exact ⟨⟨f.O a1, (f.I a1 (h1s _ (by omega) (by omega))).trans a2, (f.R a1 (h1s _ (by omega) (by omega))).trans a3, (f.R a1 (h1s _ (by omega) (by omega))).trans a4, (f.R a1 (h1s _ (by omega) (by omega))).trans a5⟩, ⟨f.O b1, (f.L b1).trans b2⟩, ⟨f.O c1, (f.R c1 (h2s _ (by omega) (by omega))).trans c2, (f.R c1 (h2s _ (by omega) (by omega))).trans c3, (f.R c1 (h2s _ (by omega) (by omega))).trans c4, (f.R c1 (h2s _ (by omega) (by omega))).trans c5⟩, ⟨f.O d1, f.O d2, f.O d3, f.O d4⟩, ⟨(f.L d1).trans e1, (f.L d2).trans e2, (f.L d3).trans e3, (f.L d4).trans e4⟩, f.O g⟩
theorem hsD.on {h h1 : Hp} {S : Nat → Nat → Prop} {w num : Nat} {es : List Evt} (q : hsD h w es) (t : wfT h w num) (f : cf S h h1) (h1s : ¬ S (w + 2) 204) (h2s : ∀ a j, w + 3 ≤ a → a ≤ w + 6 → ¬ S a j) : hsD h1 w es := by
  obtain ⟨-, -, ⟨c1, -⟩, ⟨d1, d2, d3, d4⟩, -⟩ := t
  obtain ⟨⟨q1, q2⟩, q3⟩ := q
  refine ⟨⟨(f.I c1 h1s).trans q1, q2⟩, fun k e hk => ?_⟩
  obtain ⟨x1, x2, x3, x4⟩ := q3 k e hk
  exact ⟨(f.E d1 (h2s _ _ (by omega) (by omega))).trans x1, (f.E d2 (h2s _ _ (by omega) (by omega))).trans x2, (f.E d3 (h2s _ _ (by omega) (by omega))).trans x3, (f.E d4 (h2s _ _ (by omega) (by omega))).trans x4⟩
theorem wkD.on {h h1 : Hp} {S : Nat → Nat → Prop} {w num : Nat} {W : Wkr} (q : wkD h w W) (t : wfT h w num) (f : cf S h h1) (h1s : ∀ j, 1005 ≤ j → j ≤ 1011 → ¬ S w j) (h2s : ∀ j, ¬ S (w + 1) j) : wkD h1 w W := by
  obtain ⟨⟨a1, -⟩, ⟨b1, -⟩, -⟩ := t
  obtain ⟨q0, q1, q2, q3, q4, q5, q6, q7⟩ := q
  exact ⟨fun v hv => (f.E b1 (h2s _)).trans (q0 v hv), (f.I a1 (h1s _ (by omega) (by omega))).trans q1, (f.I a1 (h1s _ (by omega) (by omega))).trans q2, (f.I a1 (h1s _ (by omega) (by omega))).trans q3, fun z => (f.I a1 (h1s _ (by omega) (by omega))).trans (q4 z), (f.I a1 (h1s _ (by omega) (by omega))).trans q5, (f.I a1 (h1s _ (by omega) (by omega))).trans q6, (f.I a1 (h1s _ (by omega) (by omega))).trans q7⟩
theorem tkD.on {h h1 : Hp} {S : Nat → Nat → Prop} {w num : Nat} {k : Tsk} (q : tkD h w k) (t : wfT h w num) (f : cf S h h1) (h1s : ∀ j, ¬ S (w + 7) j) : tkD h1 w k := by
  obtain ⟨-, -, -, -, -, g⟩ := t
  obtain ⟨q1, q2, q3, q4, q5, q6⟩ := q
  exact ⟨(f.I g (h1s _)).trans q1, (f.I g (h1s _)).trans q2, (f.I g (h1s _)).trans q3, (f.I g (h1s _)).trans q4, (f.I g (h1s _)).trans q5, (f.I g (h1s _)).trans q6⟩
theorem wfC.on {h h1 : Hp} {S : Nat → Nat → Prop} {w num : Nat} {f9 : Flw} (q : wfC h w num f9) (f : cf S h h1) (hS : ∀ a j, w ≤ a → a ≤ w + 7 → ¬ (a = w ∧ (j = 1004 ∨ j = 1012 ∨ j = 1013)) → ¬ S a j) : wfC h1 w num f9 := by
  obtain ⟨t, q1, q2, q3⟩ := q
  exact ⟨t.on f (fun j _ _ => hS _ _ (by omega) (by omega) (by omega)) (fun j _ _ => hS _ _ (by omega) (by omega) (by omega)), q1.on t f (hS _ _ (by omega) (by omega) (by omega)) (fun a j _ _ => hS _ _ (by omega) (by omega) (by omega)), q2.on t f (fun j _ _ => hS _ _ (by omega) (by omega) (by omega)) (fun j => hS _ _ (by omega) (by omega) (by omega)), q3.on t f (fun j => hS _ _ (by omega) (by omega) (by omega))⟩
theorem obC.on {h h1 : Hp} {own own1 : Nat → Nat} {S : Nat → Nat → Prop} {s v : Nat} {O : List (Nat × Nat × Nat)} (q : obC h own s v O) (o4 : isO h (shA s + 4) 3) (f : cf S h h1) (e : exO own own1 h) (hS : ∀ j, ¬ S (shA s + 4) j) (hO : ∀ a j, (own a = 10 * s + 5 ∨ own a = 10 * s + 6 ∨ own a = 10 * s + 7) → ¬ S a j) : obC h1 own1 s v O := by
  obtain ⟨a, b, c, ⟨a1, a2, a3⟩, ⟨b1, b2, b3⟩, ⟨c1, c2, c3⟩, ⟨d1, d2, d3, d4⟩, ⟨e1, e2⟩, g⟩ := q
  refine ⟨a, b, c, ⟨(f.R o4 (hS _)).trans a1, (f.R o4 (hS _)).trans a2, (f.R o4 (hS _)).trans a3⟩, ⟨f.O b1, f.O b2, f.O b3⟩, ⟨(e a b1.2.1).trans c1, (e b b2.2.1).trans c2, (e c b3.2.1).trans c3⟩, ⟨(f.L b1).trans d1, (f.L b2).trans d2, (f.L b3).trans d3, d4⟩, ⟨(f.I o4 (hS _)).trans e1, e2⟩, fun k m hk => ?_⟩
  obtain ⟨g1, g2, g3⟩ := g k m hk
  exact ⟨(f.E b1 (hO _ _ (Or.inl c1))).trans g1, (f.E b2 (hO _ _ (Or.inr (Or.inl c2)))).trans g2, (f.E b3 (hO _ _ (Or.inr (Or.inr c3)))).trans g3⟩
theorem stC.on {h h1 : Hp} {S : Nat → Nat → Prop} {s : Nat} (q : stC h s) (f : cf S h h1) (hS : ∀ j, 700 ≤ j → j ≤ 706 → ¬ S (shA s) j) (h2 : ∀ a j, (a = shA s + 1 ∨ a = shA s + 2) → ¬ S a j) : stC h1 s := by
  obtain ⟨⟨a1, a2, a3, a4, a5, a6, a7, a8⟩, ⟨b1, b2, b3⟩, ⟨c1, c2, c3⟩, ⟨d1, d2⟩, e⟩ := q
  refine ⟨⟨f.O a1, (f.I a1 (hS _ (by omega) (by omega))).trans a2, (f.R a1 (hS _ (by omega) (by omega))).trans a3, (f.R a1 (hS _ (by omega) (by omega))).trans a4, (f.R a1 (hS _ (by omega) (by omega))).trans a5, (f.R a1 (hS _ (by omega) (by omega))).trans a6, (f.R a1 (hS _ (by omega) (by omega))).trans a7, (f.R a1 (hS _ (by omega) (by omega))).trans a8⟩, ⟨f.O b1, (f.L b1).trans b2, fun r hr => (f.Q b1 (h2 _ _ (Or.inl rfl))).trans (b3 r hr)⟩, ⟨f.O c1, (f.L c1).trans c2, fun n hn => (f.Q c1 (h2 _ _ (Or.inr rfl))).trans (c3 n hn)⟩, ⟨f.O d1, (f.L d1).trans d2⟩, f.O e⟩
theorem scC.on {h h1 : Hp} {S : Nat → Nat → Prop} {s : Nat} {q : Shd} (k : scC h s q) (o : isO h (shA s) 7) (f : cf S h h1) (hS : ∀ j, 707 ≤ j → j ≤ 711 → ¬ S (shA s) j) : scC h1 s q := by
  obtain ⟨k1, k2, k3, k4, k5⟩ := k
  exact ⟨(f.I o (hS _ (by omega) (by omega))).trans k1, (f.I o (hS _ (by omega) (by omega))).trans k2, (f.I o (hS _ (by omega) (by omega))).trans k3, (f.I o (hS _ (by omega) (by omega))).trans k4, (f.J o (hS _ (by omega) (by omega))).trans k5⟩
/-- another shard's act leaves this one -/
theorem shC.off {h h1 : Hp} {own own1 : Nat → Nat} {S : Nat → Nat → Prop} {s v : Nat} {u : Nat → Nat} {q : Shd} (k : shC h own s u v q) (w : owS own) (hs : s < 4) (f : cf S h h1) (e : exO own own1 h) (hS : ∀ a j, own a / 10 = s ∨ own a = 102 → ¬ S a j) : shC h1 own1 s u v q := by
  obtain ⟨k1, k2, k3, k4, ⟨kN, k5⟩, k6⟩ := k
  have own8 : ∀ o, o < 146 → ¬ (5 ≤ o ∧ o ≤ 7) → ¬ (9 ≤ o ∧ o ≤ 17 ∧ o % 2 = 1) → ∀ j, ¬ S (shA s + o) j := fun o h1 h2 h3 j => hS _ _ (Or.inl (by rw [ow_at w hs h1 h2 h3]; omega))
  refine ⟨k1.on f (fun j _ _ => own8 0 (by omega) (by omega) (by omega) j) (fun a j ha => ?_), k2.on k1.1.1 f (fun j _ _ => own8 0 (by omega) (by omega) (by omega) j), fun r hr => (k3 r hr).on f e (fun j _ _ => own8 _ (by omega) (by omega) (by omega) j) (fun a j ha => hS a j (Or.inl (by omega))), fun n hn => (k4 n hn).on f (fun a j h1 h2 _ => ?_), ⟨kN, fun n hn => ?_⟩, k6.on k1.2.2.2.2 f e (fun j => own8 4 (by omega) (by omega) (by omega) j) (fun a j ha => hS a j (Or.inl (by omega)))⟩
  · rcases ha with ha | ha <;> rw [ha]
    · exact own8 1 (by omega) (by omega) (by omega) j
    · exact own8 2 (by omega) (by omega) (by omega) j
  · have : a = shA s + (a - shA s) := by omega
    rw [this]
    exact own8 _ (by omega) (by omega) (by omega) j
  · have o := (k4 n (by omega)).1.1.1
    rw [f.R o (own8 _ (by omega) (by omega) (by omega) _)]
    exact (k5 n hn).on f e (fun a j ha => hS a j (Or.inr ha))
