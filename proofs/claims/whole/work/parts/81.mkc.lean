/-! THE CLASS IS MADE -/
def zr (h : Hp) (x : Nat) : Prop := ∀ j, zI h j x = 0 ∧ zR h j x = 0 ∧ zJ h j x = 0 ∧ zE h x j = 0 ∧ zQ h x j = 0
theorem zr.on {h h1 : Hp} {x : Nat} {S : Nat → Nat → Prop} (z : zr h x) (f : cf S h h1) (hx : x < zn h) (hS : ∀ j, ¬ S x j) : zr h1 x := fun j => by
  obtain ⟨a, b, c, d, e, g⟩ := f.2.2 x j hx (hS j)
  obtain ⟨z1, z2, z3, z4, z5⟩ := z j
  exact ⟨a.trans z1, b.trans z2, c.trans z3, d.trans z4, e.trans z5⟩
/-- a cell is made -/
def mkC (h : Hp) (t n x : Nat) (h1 : Hp) : Prop := (zn h1 = x + 1 ∧ zs h1 = zs h + n) ∧ isO h1 x t ∧ zL h1 x = n ∧ zr h1 x ∧ ∀ S : Nat → Nat → Prop, cf S h h1
section Mk
variable {h h1 : Hp} {t n x f a : Nat}
theorem mkC.nn (m : mkC h t n x h1) : zn h1 = x + 1 := m.1.1
theorem mkC.ss (m : mkC h t n x h1) : zs h1 = zs h + n := m.1.2
theorem mkC.oo (m : mkC h t n x h1) : isO h1 x t := m.2.1
theorem mkC.ll (m : mkC h t n x h1) : zL h1 x = n := m.2.2.1
theorem mkC.zz (m : mkC h t n x h1) : zr h1 x := m.2.2.2.1
theorem mkC.cc (m : mkC h t n x h1) : ∀ S : Nat → Nat → Prop, cf S h h1 := m.2.2.2.2
/-- a cell is made, and named in another's field -/
def mkR (h : Hp) (f a t n x : Nat) (h1 : Hp) : Prop := (zn h1 = x + 1 ∧ zs h1 = zs h + n) ∧ isO h1 x t ∧ zL h1 x = n ∧ zr h1 x ∧ zR h1 f a = x ∧ cf (fun p j => p = a ∧ j = f) h h1
theorem mkR.nn (m : mkR h f a t n x h1) : zn h1 = x + 1 := m.1.1
theorem mkR.ss (m : mkR h f a t n x h1) : zs h1 = zs h + n := m.1.2
theorem mkR.oo (m : mkR h f a t n x h1) : isO h1 x t := m.2.1
theorem mkR.ll (m : mkR h f a t n x h1) : zL h1 x = n := m.2.2.1
theorem mkR.zz (m : mkR h f a t n x h1) : zr h1 x := m.2.2.2.1
theorem mkR.rr (m : mkR h f a t n x h1) : zR h1 f a = x := m.2.2.2.2.1
theorem mkR.cc (m : mkR h f a t n x h1) : cf (fun p j => p = a ∧ j = f) h h1 := m.2.2.2.2.2
end Mk
theorem mk_pN {h : Hp} {t n x : Nat} (hz : zn h = x) (h8 : 8 ≤ x) : mkC h t n x (pN h t n) := by
  subst hz
  refine ⟨⟨rfl, rfl⟩, ⟨h8, Nat.lt_succ_self _, va_up_at⟩, va_up_at, fun j => ⟨if_pos rfl, if_pos rfl, if_pos rfl, ?_, ?_⟩, fun S => cf_pN h t n⟩
  · show va_up (zE h) (zn h) (fun _ => 0) (zn h) j = 0
    rw [va_up_at]
  · show va_up (zQ h) (zn h) (fun _ => 0) (zn h) j = 0
    rw [va_up_at]
theorem pR_at (h : Hp) (f a v : Nat) : zR (pR h f a v) f a = v := if_pos ⟨rfl, rfl⟩
theorem pI_at (h : Hp) (f a : Nat) (v : Int32) : zI (pI h f a v) f a = v := by rw [zI_pI, if_pos ⟨rfl, rfl⟩]
theorem pQ_at (h : Hp) (f a v : Nat) : zQ (pQ h f a v) f a = v := if_pos ⟨rfl, rfl⟩
theorem mk_pR {h : Hp} {f a t n x : Nat} (hz : zn h = x) (h8 : 8 ≤ x) (ha : a < x) : mkR h f a t n x (pR (pN h t n) f a x) := by
  obtain ⟨⟨a1, a2⟩, a3, a4, a5, a6⟩ := mk_pN (t := t) (n := n) hz h8
  have g : cf (fun p j => p = a ∧ j = f) (pN h t n) (pR (pN h t n) f a x) := cf_pR ⟨rfl, rfl⟩
  exact ⟨⟨a1, a2⟩, a3, a4, a5.on g (by omega) (fun j => by omega), pR_at _ _ _ _, (a6 _).tr g⟩
/-- a history -/
theorem i_hist {h : Hp} {x : Nat} (o : isO h x 2) (hz : zn h = x + 1) : ∃ h1, f_X1_init x h = some h1 ∧ zn h1 = x + 5 ∧ zs h1 = zs h + 240 ∧ cf (fun a j => a = x ∧ 200 ≤ j ∧ j ≤ 203) h h1 ∧ (zR h1 200 x = x + 1 ∧ zR h1 201 x = x + 2 ∧ zR h1 202 x = x + 3 ∧ zR h1 203 x = x + 4) ∧ (isO h1 (x + 1) 22 ∧ isO h1 (x + 2) 22 ∧ isO h1 (x + 3) 22 ∧ isO h1 (x + 4) 22) ∧ (zL h1 (x + 1) = 60 ∧ zL h1 (x + 2) = 60 ∧ zL h1 (x + 3) = 60 ∧ zL h1 (x + 4) = 60) := by
  have h8 := o.1
  have A := mk_pR (f := 200) (a := x) (t := 22) (n := 60) hz (by omega) (by omega)
  have e1 : f_X1_init x h = (fun h4 => ck (8 ≤ zn h4) (bh (pN h4 22 60) (fun h6 => bh (pR h6 201 x (zn h4)) (fun h7 => ck (8 ≤ zn h7) (bh (pN h7 22 60) (fun h9 => bh (pR h9 202 x (zn h7)) (fun h10 => ck (8 ≤ zn h10) (bh (pN h10 22 60) (fun h12 => bh (pR h12 203 x (zn h10)) (fun h13 => some h13)))))))))) (pR (pN h 22 60) 200 x (x + 1)) := by
    unfold f_X1_init
    rw [ck_yes o, ck_yes (by omega), hz]
    rfl
  rw [e1]
  generalize pR (pN h 22 60) 200 x (x + 1) = h4 at A
  have B := mk_pR (f := 201) (a := x) (t := 22) (n := 60) A.nn (by omega) (by omega)
  dsimp only
  rw [ck_yes (by rw [A.nn]; omega), bhE, bhE, A.nn]
  generalize pR (pN h4 22 60) 201 x (x + 1 + 1) = h7 at B
  have C := mk_pR (f := 202) (a := x) (t := 22) (n := 60) B.nn (by omega) (by omega)
  rw [ck_yes (by rw [B.nn]; omega), bhE, bhE, B.nn]
  generalize pR (pN h7 22 60) 202 x (x + 1 + 1 + 1) = h10 at C
  have D := mk_pR (f := 203) (a := x) (t := 22) (n := 60) C.nn (by omega) (by omega)
  rw [ck_yes (by rw [C.nn]; omega), bhE, bhE, C.nn]
  generalize pR (pN h10 22 60) 203 x (x + 1 + 1 + 1 + 1) = h13 at D
  have oA := A.cc.O o
  have oB := B.cc.O oA
  have oC := C.cc.O oB
  have mo : ∀ {g g1 : Hp} {f : Nat}, 200 ≤ f → f ≤ 203 → cf (fun p j => p = x ∧ j = f) g g1 → cf (fun a j => a = x ∧ 200 ≤ j ∧ j ≤ 203) g g1 := fun h1 h2 c => c.mono (fun a j _ z => by omega)
  refine ⟨h13, rfl, D.nn, by have := A.ss; have := B.ss; have := C.ss; have := D.ss; omega, (((mo (by omega) (by omega) A.cc).tr (mo (by omega) (by omega) B.cc)).tr (mo (by omega) (by omega) C.cc)).tr (mo (by omega) (by omega) D.cc), ⟨?_, ?_, ?_, D.rr⟩, ⟨D.cc.O (C.cc.O (B.cc.O A.oo)), D.cc.O (C.cc.O B.oo), D.cc.O C.oo, D.oo⟩, ⟨?_, ?_, ?_, D.ll⟩⟩
  · rw [D.cc.R oC (by omega), C.cc.R oB (by omega), B.cc.R oA (by omega)]; exact A.rr
  · rw [D.cc.R oC (by omega), C.cc.R oB (by omega)]; exact B.rr
  · rw [D.cc.R oC (by omega)]; exact C.rr
  · rw [D.cc.L (C.cc.O (B.cc.O A.oo)), C.cc.L (B.cc.O A.oo), B.cc.L A.oo]; exact A.ll
  · rw [D.cc.L (C.cc.O B.oo), C.cc.L B.oo]; exact B.ll
  · rw [D.cc.L C.oo]; exact C.ll
def wfS1 (w a j : Nat) : Prop := (a = w ∧ (j = 1000 ∨ j = 1002 ∨ j = 1003)) ∨ (a = w + 1 + 1 ∧ 200 ≤ j ∧ j ≤ 203)
def wfS2 (w a j : Nat) : Prop := a = w ∧ (j = 1000 ∨ j = 1002 ∨ j = 1003)
theorem wfS1_a {w a j : Nat} (h1 : a ≠ w) (h2 : a ≠ w + 1 + 1) : ¬ wfS1 w a j := fun z => by unfold wfS1 at z; omega
theorem wfS1_b {w a j : Nat} (ha : a < w + 1) (z : wfS1 w a j) : a = w := by unfold wfS1 at z; omega
theorem wfS1_c {w j : Nat} (hj : ¬ (j = 1001 ∨ j = 1000 ∨ j = 1002 ∨ j = 1003)) : ¬ (wfS1 w w j ∨ (w = w ∧ j = 1001)) := fun z => by unfold wfS1 at z; omega
theorem wfS1_d {w : Nat} : ¬ wfS1 w w 1001 := fun z => by unfold wfS1 at z; omega
theorem wfS1_e {w : Nat} : ¬ wfS1 w (w + 1 + 1) 204 := fun z => by unfold wfS1 at z; omega
theorem kN29 : kN 2 ≤ 20 ∧ kN 9 ≤ 20 := by decide
def fl0 : Flw := ([], [], (fun _ => 0, 0, 0, 0, 0, 0, 0, 0), (0, 0, 0, 0, 0, 0))
theorem i_wfs {a b c d e f g : Nat} (h1 : b = a + 8) (h2 : c = b + kN 2) (h3 : d = c + 240) (h4 : e = d) (h5 : f = e + kN 9) (h6 : g = f) : g ≤ a + 300 := by
  have := kN29
  omega
/-- a workflow -/
theorem i_wf {h : Hp} {w num : Nat} (o : isO h w 10) (hz : zn h = w + 1) (zo : zr h w) : ∃ h1, f_X9_init w (nI num) h = some h1 ∧ zn h1 = w + 8 ∧ zs h1 ≤ zs h + 300 ∧ cf (fun a _ => a = w) h h1 ∧ wfC h1 w num fl0 := by
  have h8 := o.1
  have A := mk_pR (f := 1001) (a := w) (t := 22) (n := 8) hz (by omega) (by omega)
  have e1 : f_X9_init w (nI num) h = (fun h4 => ck (8 ≤ zn h4) (bh (pN h4 2 (kN 2)) (fun h6 => ck (isO h6 (zn h4) 2) ((f_X1_init (zn h4) h6).bind (fun q7 => ck (isO q7 w 10) (bh (pR q7 1002 w (zn h4)) (fun h10 => ck (8 ≤ zn h10) (bh (pN h10 9 (kN 9)) (fun h12 => ck (isO h12 (zn h10) 9) ((f_X8_init (zn h10) h12).bind (fun q13 => ck (isO q13 w 10) (bh (pR q13 1003 w (zn h10)) (fun h16 => bh (pI h16 1000 w (nI num)) (fun h17 => some h17))))))))))))) ) (pR (pN h 22 8) 1001 w (w + 1)) := by
    unfold f_X9_init
    rw [ck_yes o, ck_yes (by omega), hz]
    rfl
  rw [e1]
  generalize pR (pN h 22 8) 1001 w (w + 1) = h4 at A
  have B := mk_pN (t := 2) (n := kN 2) A.nn (by omega)
  dsimp only
  rw [ck_yes (by rw [A.nn]; omega), bhE, A.nn]
  generalize pN h4 2 (kN 2) = h6 at B
  obtain ⟨h7, C1, C2, C3, C4, C5, C6, C7⟩ := i_hist B.oo B.nn
  have oA := A.cc.O o
  have oB := (B.cc (fun _ _ => False)).O oA
  have oC := C4.O oB
  rw [ck_yes B.oo, C1, bind_some9, ck_yes oC, bhE]
  have fD : cf (fun a j => a = w ∧ j = 1002) h7 (pR h7 1002 w (w + 1 + 1)) := cf_pR ⟨rfl, rfl⟩
  have rD : zR (pR h7 1002 w (w + 1 + 1)) 1002 w = w + 1 + 1 := pR_at _ _ _ _
  have nD : zn (pR h7 1002 w (w + 1 + 1)) = w + 7 := C2
  have sD : zs (pR h7 1002 w (w + 1 + 1)) = zs h7 := rfl
  generalize pR h7 1002 w (w + 1 + 1) = h10 at *
  have oD := fD.O oC
  have E := mk_pN (t := 9) (n := kN 9) nD (by omega)
  rw [ck_yes (by rw [nD]; omega), bhE, nD]
  generalize pN h10 9 (kN 9) = h12 at E
  have oE := (E.cc (fun _ _ => False)).O oD
  unfold f_X8_init
  rw [ck_yes E.oo, ck_yes E.oo, bind_some9, ck_yes oE, bhE, bhE]
  have fF : cf (fun a j => a = w ∧ (j = 1003 ∨ j = 1000)) h12 (pI (pR h12 1003 w (w + 7)) 1000 w (nI num)) := (cf_pR (S := fun a j => a = w ∧ (j = 1003 ∨ j = 1000)) ⟨rfl, Or.inl rfl⟩).tr (cf_pI ⟨rfl, Or.inr rfl⟩)
  have r3 : zR (pI (pR h12 1003 w (w + 7)) 1000 w (nI num)) 1003 w = w + 7 := pR_at _ _ _ _
  have r0 : zI (pI (pR h12 1003 w (w + 7)) 1000 w (nI num)) 1000 w = nI num := pI_at _ _ _ _
  have nF : zn (pI (pR h12 1003 w (w + 7)) 1000 w (nI num)) = w + 8 := E.nn
  have sF : zs (pI (pR h12 1003 w (w + 7)) 1000 w (nI num)) = zs h12 := rfl
  generalize pI (pR h12 1003 w (w + 7)) 1000 w (nI num) = k at *
  have g6 : cf (wfS1 w) h6 k := (((C4.mono (S1 := wfS1 w) (fun a j _ z => Or.inr z)).tr (fD.mono (S1 := wfS1 w) (fun a j _ z => Or.inl ⟨z.1, Or.inr (Or.inl z.2)⟩))).tr (E.cc (wfS1 w))).tr (fF.mono (S1 := wfS1 w) (fun a j _ z => Or.inl ⟨z.1, z.2.elim (fun y => Or.inr (Or.inr y)) Or.inl⟩))
  have g4 : cf (wfS1 w) h4 k := (B.cc (wfS1 w)).tr g6
  have g7 : cf (wfS2 w) h7 k := ((fD.mono (S1 := wfS2 w) (fun a j _ z => ⟨z.1, Or.inr (Or.inl z.2)⟩)).tr (E.cc (wfS2 w))).tr (fF.mono (S1 := wfS2 w) (fun a j _ z => ⟨z.1, z.2.elim (fun y => Or.inr (Or.inr y)) Or.inl⟩))
  have g0 : cf (fun a _ => a = w) h k := (A.cc.mono (S1 := fun a _ => a = w) (fun a j _ z => z.1)).tr2 g4 (fun a j ha z => wfS1_b (hz ▸ ha) z)
  have gA : cf (fun a j => wfS1 w a j ∨ (a = w ∧ j = 1001)) h k := (A.cc.mono (S1 := fun a j => wfS1 w a j ∨ (a = w ∧ j = 1001)) (fun a j _ z => Or.inr z)).tr (g4.mono (S1 := fun a j => wfS1 w a j ∨ (a = w ∧ j = 1001)) (fun a j _ z => Or.inl z))
  have n2 : ∀ a j, a ≠ w → ¬ wfS2 w a j := fun a j h1 z => h1 z.1
  have ne : ∀ x, w + (x + 1) ≠ w := fun x z => by have := Nat.add_left_cancel (z.trans (Nat.add_zero w).symm); cases this
  have z1 := A.zz.on g4 A.oo.2.1 (fun j => wfS1_a (ne 0) (fun z => by have := Nat.succ.inj z; exact ne 0 this.symm))
  have I0 : ∀ j, ¬ (j = 1001 ∨ j = 1000 ∨ j = 1002 ∨ j = 1003) → zI k j w = 0 := fun j hj => (gA.I o (wfS1_c hj)).trans (zo j).1
  have o2 := g6.O B.oo
  have z7 : zr k (w + 7) := E.zz.on fF E.oo.2.1 (fun j z => ne 6 z.1)
  obtain ⟨r20, r21, r22, r23⟩ := C5
  obtain ⟨p1, p2, p3, p4⟩ := C6
  obtain ⟨l1, l2, l3, l4⟩ := C7
  have o27 := C4.O B.oo
  refine ⟨k, rfl, nF, ?_, g0, ⟨⟨g0.O o, r0, ?_, ?_, r3⟩, ⟨g4.O A.oo, (g4.L A.oo).trans A.ll⟩, ⟨o2, (g7.R o27 (n2 _ _ (ne 1))).trans r20, (g7.R o27 (n2 _ _ (ne 1))).trans r21, (g7.R o27 (n2 _ _ (ne 1))).trans r22, (g7.R o27 (n2 _ _ (ne 1))).trans r23⟩, ⟨g7.O p1, g7.O p2, g7.O p3, g7.O p4⟩, ⟨(g7.L p1).trans l1, (g7.L p2).trans l2, (g7.L p3).trans l3, (g7.L p4).trans l4⟩, fF.O E.oo⟩, ⟨⟨?_, by show 0 ≤ 60; omega⟩, fun j e he => by cases he⟩, ⟨fun v _ => (z1 v).2.2.2.1, I0 _ (by decide), I0 _ (by decide), I0 _ (by decide), fun z => I0 _ (by decide), I0 _ (by decide), I0 _ (by decide), I0 _ (by decide)⟩, (z7 _).1, (z7 _).1, (z7 _).1, (z7 _).1, (z7 _).1, (z7 _).1⟩
  · exact i_wfs A.ss B.ss C3 sD E.ss sF
  · exact (g4.R oA wfS1_d).trans A.rr
  · exact (fF.R oE (fun z => absurd z.2 (by decide))).trans (((E.cc (fun _ _ => False)).R oD (fun z => z)).trans rD)
  · exact ((g6.I B.oo wfS1_e).trans (B.zz 204).1)
/-! a disk, an outbox, a shard -/
def dk0 : Dk := ([], true, -1, 0, (0, 0, 0, 0, 0, 0))
theorem i_dk {h : Hp} {D r : Nat} (o : isO h D 6) (hz : zn h = D + 1) (zo : zr h D) : ∃ h1, f_X5_init D (nI r) h = some h1 ∧ zn h1 = D + 2 ∧ zs h1 = zs h + 512 ∧ cf (fun a _ => a = D) h h1 ∧ dkC h1 D (D + 1) 1 r dk0 := by
  have h8 := o.1
  have A := mk_pR (f := 601) (a := D) (t := 20) (n := 512) hz (by omega) (by omega)
  have e1 : f_X5_init D (nI r) h = some (pI (pI (pI (pR (pN h 20 512) 601 D (D + 1)) 603 D 1) 604 D (-1)) 600 D (nI r)) := by
    unfold f_X5_init
    rw [ck_yes o, ck_yes (by omega), hz]
    rfl
  rw [e1]
  generalize pR (pN h 20 512) 601 D (D + 1) = m at A
  have oA := A.cc.O o
  have f : cf (fun a j => a = D ∧ (j = 603 ∨ j = 604 ∨ j = 600)) m (pI (pI (pI m 603 D 1) 604 D (-1)) 600 D (nI r)) := ((cf_pI (S := fun a j => a = D ∧ (j = 603 ∨ j = 604 ∨ j = 600)) ⟨rfl, Or.inl rfl⟩).tr (cf_pI ⟨rfl, Or.inr (Or.inl rfl)⟩)).tr (cf_pI ⟨rfl, Or.inr (Or.inr rfl)⟩)
  have e0 : zI (pI (pI (pI m 603 D 1) 604 D (-1)) 600 D (nI r)) 600 D = nI r := pI_at _ _ _ _
  have e3 : zI (pI (pI (pI m 603 D 1) 604 D (-1)) 600 D (nI r)) 603 D = 1 := by rw [zI_pI, if_neg (by omega), zI_pI, if_neg (by omega), pI_at]
  have e4 : zI (pI (pI (pI m 603 D 1) 604 D (-1)) 600 D (nI r)) 604 D = -1 := by rw [zI_pI, if_neg (by omega), pI_at]
  have nk : zn (pI (pI (pI m 603 D 1) 604 D (-1)) 600 D (nI r)) = D + 2 := A.nn
  have sk : zs (pI (pI (pI m 603 D 1) 604 D (-1)) 600 D (nI r)) = zs h + 512 := A.ss
  generalize pI (pI (pI m 603 D 1) 604 D (-1)) 600 D (nI r) = k at *
  have z1 : zr k (D + 1) := A.zz.on f A.oo.2.1 (fun j => by omega)
  refine ⟨k, rfl, nk, sk, (A.cc.mono (S1 := fun a _ => a = D) (fun a j _ z => z.1)).tr (f.mono (fun a j _ z => z.1)), ⟨f.O oA, e0, ⟨(f.R oA (by omega)).trans A.rr, f.O A.oo, (f.L A.oo).trans A.ll, Nat.le_refl _, by omega⟩, ⟨?_, by show 0 ≤ 512 * 1; omega⟩, ⟨e3, e4⟩, (fun p hp => absurd hp (by show ¬ p < 0; omega)), fun p _ => by rw [(z1 p).2.2.2.1]; rfl⟩, by decide⟩
  rw [f.I oA (by omega), A.cc.I o (by omega), (zo 602).1]
  rfl
theorem i_dkon {h h1 : Hp} {S : Nat → Nat → Prop} {D B u num : Nat} {d : Dk} (q : dkC h D B u num d) (f : cf S h h1) (hD : ∀ j, ¬ S D j) (hB : ∀ j, ¬ S B j) : dkC h1 D B u num d := ⟨q.1.on f (fun j _ _ => hD j) hB, q.2⟩
/-- the disks of a shard -/
theorem i_dks {x : Nat} {l1 : Int32} (h8 : 8 ≤ x) : ∀ (m i fuel : Nat) (h : Hp), i + m = 5 → m < fuel → isO h x 7 → zR h 703 x = x + 1 → isO h (x + 1) 25 → zL h (x + 1) = 5 → zn h = x + (8 + 2 * i) → (∀ r, r < i → dkC h (x + (8 + 2 * r)) (x + (8 + 2 * r) + 1) 1 r dk0 ∧ zQ h (x + 1) r = x + (8 + 2 * r)) → ∃ h1, f_X6_init_63 fuel x l1 (nI i) h = f_X6_init_94 fz x l1 (nI 0) h1 ∧ zn h1 = x + 18 ∧ zs h1 ≤ zs h + 600 * m ∧ cf (fun a _ => a = x + 1) h h1 ∧ ∀ r, r < 5 → dkC h1 (x + (8 + 2 * r)) (x + (8 + 2 * r) + 1) 1 r dk0 ∧ zQ h1 (x + 1) r = x + (8 + 2 * r)
  | m, i, 0, _, _, hf, _, _, _, _, _, _ => absurd hf (Nat.not_lt_zero _)
  | 0, i, fuel + 1, h, hi, _, o, _, _, _, hz, hd => by
    have hi : i = 5 := hi
    subst hi
    refine ⟨h, ?_, hz, by omega, cf.rf h, hd⟩
    unfold f_X6_init_63
    rw [if_pos (by decide)]
    rfl
  | m + 1, i, fuel + 1, h, hi, hf, o, r3, o1, l1', hz, hd => by
    have c : ¬ (5 : Int32) ≤ nI i := zi_le0 (a := 5) (by omega) (by omega) (by omega)
    have A := mk_pN (t := 6) (n := kN 6) hz (by omega)
    obtain ⟨g, g1, g2, g3, g4, g5⟩ := i_dk (r := i) A.oo A.nn A.zz
    have fg : cf (fun a _ => a = x + (8 + 2 * i)) h g := (A.cc _).tr g4
    have og := fg.O o1
    have ox := fg.O o
    have fq : cf (fun a _ => a = x + 1) g (pQ g (x + 1) i (x + (8 + 2 * i))) := cf_pQ rfl
    have f2 : cf (fun a _ => a = x + 1) h (pQ g (x + 1) i (x + (8 + 2 * i))) := (fg.mono (S1 := fun a _ => a = x + 1 ∨ a = x + (8 + 2 * i)) (fun a j _ z => Or.inr z)).tr2 (fq.mono (S1 := fun a _ => a = x + 1 ∨ a = x + (8 + 2 * i)) (fun a j _ z => Or.inl z)) (fun a j _ z => z) |>.mono (fun a j ha z => by omega)
    have qa : zQ (pQ g (x + 1) i (x + (8 + 2 * i))) (x + 1) i = x + (8 + 2 * i) := pQ_at _ _ _ _
    have qb : ∀ r, r ≠ i → zQ (pQ g (x + 1) i (x + (8 + 2 * i))) (x + 1) r = zQ g (x + 1) r := fun r hr => up2_nq (fun z => hr z.2)
    obtain ⟨h1, x1, x2, x3, x4, x5⟩ := i_dks (x := x) (l1 := l1) h8 m (i + 1) fuel (pQ g (x + 1) i (x + (8 + 2 * i))) (by omega) (by omega) ox ((fg.R o (by omega)).trans r3) og ((fg.L o1).trans l1') (by show zn g = _; omega) (fun r hr => by
      by_cases e : r = i
      · rw [e]
        exact ⟨i_dkon g5 fq (fun j => by omega) (fun j => by omega), qa⟩
      · obtain ⟨d1, d2⟩ := hd r (by omega)
        exact ⟨i_dkon d1 f2 (fun j => by omega) (fun j => by omega), (qb r e).trans ((fg.Q o1 (by omega)).trans d2)⟩)
    have k6 : kN 6 ≤ 20 := by decide
    refine ⟨h1, ?_, x2, by have := A.ss; have : zs (pQ g (x + 1) i (x + (8 + 2 * i))) = zs g := rfl; omega, f2.tr x4, x5⟩
    unfold f_X6_init_63
    rw [if_neg c, ck_yes o, ck_yes (by omega), bhE, hz, ck_yes A.oo, g1, bind_some9, r3, ck_yes og, fg.L o1, l1', ck_yes (zi_in (by omega : i < 5) (by omega)), ck_yes (g5.1.1), zi_nat (by omega), bhE, bhE, zi_one]
    exact x1
/-- the workflows of a shard -/
theorem i_wfl {x s : Nat} (h8 : 8 ≤ x) : ∀ (m i fuel : Nat) (h : Hp), i + m = 16 → m < fuel → isO h x 7 → zR h 704 x = x + 2 → isO h (x + 2) 28 → zL h (x + 2) = 16 → zn h = x + (18 + 8 * i) → (∀ n, n < i → wfC h (x + (18 + 8 * n)) (s + 4 * n) fl0 ∧ zQ h (x + 2) n = x + (18 + 8 * n)) → ∃ h1, f_X6_init_94 fuel x (nI s) (nI i) h = some h1 ∧ zn h1 = x + 146 ∧ zs h1 ≤ zs h + 400 * m ∧ cf (fun a _ => a = x + 2) h h1 ∧ ∀ n, n < 16 → wfC h1 (x + (18 + 8 * n)) (s + 4 * n) fl0 ∧ zQ h1 (x + 2) n = x + (18 + 8 * n)
  | m, i, 0, _, _, hf, _, _, _, _, _, _ => absurd hf (Nat.not_lt_zero _)
  | 0, i, fuel + 1, h, hi, _, o, _, _, _, hz, hd => by
    have hi : i = 16 := hi
    subst hi
    refine ⟨h, ?_, hz, by omega, cf.rf h, hd⟩
    unfold f_X6_init_94
    rw [if_pos (by decide)]
  | m + 1, i, fuel + 1, h, hi, hf, o, r3, o1, l1', hz, hd => by
    have c : ¬ (16 : Int32) ≤ nI i := zi_le0 (a := 16) (by omega) (by omega) (by omega)
    have A := mk_pN (t := 10) (n := kN 10) hz (by omega)
    obtain ⟨g, g1, g2, g3, g4, g5⟩ := i_wf (num := s + 4 * i) A.oo A.nn A.zz
    have fg : cf (fun a _ => a = x + (18 + 8 * i)) h g := (A.cc _).tr g4
    have og := fg.O o1
    have ox := fg.O o
    have fq : cf (fun a _ => a = x + 2) g (pQ g (x + 2) i (x + (18 + 8 * i))) := cf_pQ rfl
    have f2 : cf (fun a _ => a = x + 2) h (pQ g (x + 2) i (x + (18 + 8 * i))) := ((fg.mono (S1 := fun a _ => a = x + 2 ∨ a = x + (18 + 8 * i)) (fun a j _ z => Or.inr z)).tr (fq.mono (S1 := fun a _ => a = x + 2 ∨ a = x + (18 + 8 * i)) (fun a j _ z => Or.inl z))).mono (fun a j ha z => by omega)
    have qa : zQ (pQ g (x + 2) i (x + (18 + 8 * i))) (x + 2) i = x + (18 + 8 * i) := pQ_at _ _ _ _
    have qb : ∀ r, r ≠ i → zQ (pQ g (x + 2) i (x + (18 + 8 * i))) (x + 2) r = zQ g (x + 2) r := fun r hr => up2_nq (fun z => hr z.2)
    obtain ⟨h1, x1, x2, x3, x4, x5⟩ := i_wfl (x := x) (s := s) h8 m (i + 1) fuel (pQ g (x + 2) i (x + (18 + 8 * i))) (by omega) (by omega) ox ((fg.R o (by omega)).trans r3) og ((fg.L o1).trans l1') (by show zn g = _; omega) (fun r hr => by
      by_cases e : r = i
      · rw [e]
        exact ⟨g5.on fq (fun a j _ _ _ => by omega), qa⟩
      · obtain ⟨d1, d2⟩ := hd r (by omega)
        exact ⟨d1.on f2 (fun a j _ _ _ => by omega), (qb r e).trans ((fg.Q o1 (by omega)).trans d2)⟩)
    have k6 : kN 10 ≤ 20 := by decide
    refine ⟨h1, ?_, x2, by have := A.ss; have : zs (pQ g (x + 2) i (x + (18 + 8 * i))) = zs g := rfl; omega, f2.tr x4, x5⟩
    have en : nI s + (4 : Int32) * nI i = nI (s + 4 * i) := by rw [show (4 : Int32) = nI 4 from rfl, zi_mul, zi_add]
    unfold f_X6_init_94
    rw [if_neg c, ck_yes o, ck_yes (by omega), bhE, hz, ck_yes A.oo, en, g1, bind_some9, r3, ck_yes og, fg.L o1, l1', ck_yes (zi_in (by omega : i < 16) (by omega)), ck_yes (g5.1.1.1), zi_nat (by omega), bhE, bhE, zi_one]
    exact x1
/-- an outbox -/
theorem i_ob {h : Hp} {x : Nat} (o : isO h x 3) (hz : zn h = x + 1) : ∃ h1, f_X2_init x h = some h1 ∧ zn h1 = x + 4 ∧ zs h1 = zs h + 48 ∧ cf (fun a j => a = x ∧ 300 ≤ j ∧ j ≤ 302) h h1 ∧ (zR h1 300 x = x + 1 ∧ zR h1 301 x = x + 2 ∧ zR h1 302 x = x + 3) ∧ (isO h1 (x + 1) 22 ∧ isO h1 (x + 2) 22 ∧ isO h1 (x + 3) 22) ∧ (zL h1 (x + 1) = 16 ∧ zL h1 (x + 2) = 16 ∧ zL h1 (x + 3) = 16) := by
  have h8 := o.1
  have A := mk_pR (f := 300) (a := x) (t := 22) (n := 16) hz (by omega) (by omega)
  have e1 : f_X2_init x h = (fun h7 => ck (8 ≤ zn h7) (bh (pN h7 22 16) (fun h9 => bh (pR h9 301 x (zn h7)) (fun h10 => ck (8 ≤ zn h10) (bh (pN h10 22 16) (fun h12 => bh (pR h12 302 x (zn h10)) (fun h13 => some h13))))))) (pR (pN h 22 16) 300 x (x + 1)) := by
    unfold f_X2_init
    rw [ck_yes o, ck_yes (by omega), hz]
    rfl
  rw [e1]
  generalize pR (pN h 22 16) 300 x (x + 1) = h4 at A
  have B := mk_pR (f := 301) (a := x) (t := 22) (n := 16) A.nn (by omega) (by omega)
  dsimp only
  rw [ck_yes (by rw [A.nn]; omega), bhE, bhE, A.nn]
  generalize pR (pN h4 22 16) 301 x (x + 1 + 1) = h7 at B
  have C := mk_pR (f := 302) (a := x) (t := 22) (n := 16) B.nn (by omega) (by omega)
  rw [ck_yes (by rw [B.nn]; omega), bhE, bhE, B.nn]
  generalize pR (pN h7 22 16) 302 x (x + 1 + 1 + 1) = h10 at C
  have oA := A.cc.O o
  have oB := B.cc.O oA
  have mo : ∀ {g g1 : Hp} {f : Nat}, 300 ≤ f → f ≤ 302 → cf (fun p j => p = x ∧ j = f) g g1 → cf (fun a j => a = x ∧ 300 ≤ j ∧ j ≤ 302) g g1 := fun h1 h2 c => c.mono (fun a j _ z => by omega)
  refine ⟨h10, rfl, C.nn, by have := A.ss; have := B.ss; have := C.ss; omega, ((mo (by omega) (by omega) A.cc).tr (mo (by omega) (by omega) B.cc)).tr (mo (by omega) (by omega) C.cc), ⟨?_, ?_, C.rr⟩, ⟨C.cc.O (B.cc.O A.oo), C.cc.O B.oo, C.oo⟩, ⟨?_, ?_, C.ll⟩⟩
  · rw [C.cc.R oB (by omega), B.cc.R oA (by omega)]; exact A.rr
  · rw [C.cc.R oB (by omega)]; exact B.rr
  · rw [C.cc.L (B.cc.O A.oo), B.cc.L A.oo]; exact A.ll
  · rw [C.cc.L B.oo]; exact B.ll
/-! a shard -/
def shT0 (x a j : Nat) : Prop := a = x ∧ (j = 706 ∨ j = 707 ∨ j = 700 ∨ j = 701 ∨ j = 702)
def shT1 (x a j : Nat) : Prop := shT0 x a j ∨ (a = x + 1 + 1 + 1 + 1 ∧ 300 ≤ j ∧ j ≤ 302)
def shT2 (x n a j : Nat) : Prop := shT1 x a j ∨ (a = x ∧ n ≤ j ∧ j ≤ 705)
theorem shT2_a {x n a j f : Nat} (h1 : a = x) (h2 : j = f) (h3 : n ≤ f ∧ f ≤ 705) : shT2 x n a j := Or.inr ⟨h1, by omega, by omega⟩
theorem shT2_b {x n m a j : Nat} (z : shT2 x n a j) (h : m ≤ n) : shT2 x m a j := z.imp id (fun y => ⟨y.1, by omega, y.2.2⟩)
theorem shT2_c {x n a j : Nat} (ha : a < x + 1) (z : shT2 x n a j) : a = x := by
  rcases z with (z | z) | z
  · exact z.1
  · omega
  · exact z.1
theorem shT2_d {x n j : Nat} (h1 : j < n ∨ 705 < j) (h2 : 703 ≤ j) (h3 : j ≤ 705 ∨ 707 < j) : ¬ shT2 x n x j := fun z => by
  rcases z with (z | z) | z
  · unfold shT0 at z; omega
  · omega
  · omega
theorem shT1_e {x : Nat} : ¬ shT1 x (x + 1 + 1 + 1 + 1) 303 := fun z => by
  rcases z with z | z
  · have := z.1; omega
  · omega
theorem i_sh0k {h h4 h7 h10 h12 h13 k : Hp} {x : Nat} {l1 : Int32} (o : isO h x 7) (hz : zn h = x + 1) (zo : zr h x) (A : mkR h 703 x 25 5 (x + 1) h4) (B : mkR h4 704 x 28 16 (x + 1 + 1) h7) (C : mkR h7 705 x 20 16 (x + 1 + 1 + 1) h10) (D : mkC h10 3 (kN 3) (x + 1 + 1 + 1 + 1) h12) (E3 : zs h13 = zs h12 + 48) (E4 : cf (fun a j => a = x + 1 + 1 + 1 + 1 ∧ 300 ≤ j ∧ j ≤ 302) h12 h13) (E5 : zR h13 300 (x + 1 + 1 + 1 + 1) = x + 1 + 1 + 1 + 1 + 1 ∧ zR h13 301 (x + 1 + 1 + 1 + 1) = x + 1 + 1 + 1 + 1 + 2 ∧ zR h13 302 (x + 1 + 1 + 1 + 1) = x + 1 + 1 + 1 + 1 + 3) (E6 : isO h13 (x + 1 + 1 + 1 + 1 + 1) 22 ∧ isO h13 (x + 1 + 1 + 1 + 1 + 2) 22 ∧ isO h13 (x + 1 + 1 + 1 + 1 + 3) 22) (E7 : zL h13 (x + 1 + 1 + 1 + 1 + 1) = 16 ∧ zL h13 (x + 1 + 1 + 1 + 1 + 2) = 16 ∧ zL h13 (x + 1 + 1 + 1 + 1 + 3) = 16) (fF : cf (shT0 x) h13 k) (r6 : zR k 706 x = x + 4) (r1 : zR k 701 x = 14) (r2 : zR k 702 x = 15) (i7 : zI k 707 x = 3) (i0 : zI k 700 x = l1) (nF : zn k = x + 8) (sF : zs k = zs h13) : ∃ m, f_X6_init_63 fz x l1 0 k = f_X6_init_63 fz x l1 (nI 0) m ∧ zn m = x + 8 ∧ zs m ≤ zs h + 100 ∧ cf (fun a _ => a = x) h m ∧ (isO m x 7 ∧ zI m 700 x = l1 ∧ zR m 701 x = 14 ∧ zR m 702 x = 15 ∧ zR m 703 x = x + 1 ∧ zR m 704 x = x + 2 ∧ zR m 705 x = x + 3 ∧ zR m 706 x = x + 4) ∧ (zI m 707 x = 3 ∧ zI m 708 x = 0 ∧ zI m 709 x = 0 ∧ zI m 710 x = 0 ∧ zJ m 711 x = 0) ∧ (isO m (x + 1) 25 ∧ zL m (x + 1) = 5) ∧ (isO m (x + 2) 28 ∧ zL m (x + 2) = 16) ∧ (isO m (x + 3) 20 ∧ zL m (x + 3) = 16) ∧ (isO m (x + 4) 3 ∧ zI m 303 (x + 4) = 0) ∧ (zR m 300 (x + 4) = x + 5 ∧ zR m 301 (x + 4) = x + 6 ∧ zR m 302 (x + 4) = x + 7) ∧ (isO m (x + 5) 22 ∧ isO m (x + 6) 22 ∧ isO m (x + 7) 22) ∧ (zL m (x + 5) = 16 ∧ zL m (x + 6) = 16 ∧ zL m (x + 7) = 16) := by
  have oA := A.cc.O o
  have oB := B.cc.O oA
  have oC := C.cc.O oB
  have k3 : kN 3 ≤ 10 := by decide
  have g13 : cf (shT1 x) h13 k := fF.mono (S1 := shT1 x) (fun a j _ z => Or.inl z)
  have g12 : cf (shT1 x) h12 k := (E4.mono (S1 := shT1 x) (fun a j _ z => Or.inr z)).tr g13
  have g10 : cf (shT1 x) h10 k := (D.cc (shT1 x)).tr g12
  have g7 : cf (shT2 x 705) h7 k := (C.cc.mono (S1 := shT2 x 705) (fun a j _ z => shT2_a z.1 z.2 (by omega))).tr (g10.mono (fun a j _ z => Or.inl z))
  have g4 : cf (shT2 x 704) h4 k := (B.cc.mono (S1 := shT2 x 704) (fun a j _ z => shT2_a z.1 z.2 (by omega))).tr (g7.mono (fun a j _ z => shT2_b z (by omega)))
  have g0 : cf (shT2 x 703) h k := (A.cc.mono (S1 := shT2 x 703) (fun a j _ z => shT2_a z.1 z.2 (by omega))).tr (g4.mono (fun a j _ z => shT2_b z (by omega)))
  have gx : cf (fun a _ => a = x) h k := g0.mono (fun a j ha z => shT2_c (hz ▸ ha) z)
  obtain ⟨e1, e2, e3⟩ := E5
  obtain ⟨f1, f2, f3⟩ := E6
  obtain ⟨l1', l2, l3⟩ := E7
  have o12 := E4.O D.oo
  have n4 : ∀ j, ¬ shT0 x (x + 1 + 1 + 1 + 1) j := fun j z => by have := z.1; omega
  refine ⟨k, rfl, nF, ?_, gx, ⟨gx.O o, i0, r1, r2, (g4.R oA (shT2_d (by omega) (by omega) (by omega))).trans A.rr, (g7.R oB (shT2_d (by omega) (by omega) (by omega))).trans B.rr, (g10.R oC (fun z => shT2_d (n := 706) (j := 705) (by omega) (by omega) (by omega) (Or.inl z))).trans C.rr, r6⟩, ⟨i7, (g0.I o (shT2_d (by omega) (by omega) (by omega))).trans (zo _).1, (g0.I o (shT2_d (by omega) (by omega) (by omega))).trans (zo _).1, (g0.I o (shT2_d (by omega) (by omega) (by omega))).trans (zo _).1, (g0.J o (shT2_d (by omega) (by omega) (by omega))).trans (zo _).2.2.1⟩, ⟨g4.O A.oo, (g4.L A.oo).trans A.ll⟩, ⟨g7.O B.oo, (g7.L B.oo).trans B.ll⟩, ⟨g10.O C.oo, (g10.L C.oo).trans C.ll⟩, ⟨g12.O D.oo, (g12.I D.oo shT1_e).trans (D.zz _).1⟩, ⟨(fF.R o12 (n4 _)).trans e1, (fF.R o12 (n4 _)).trans e2, (fF.R o12 (n4 _)).trans e3⟩, ⟨fF.O f1, fF.O f2, fF.O f3⟩, ⟨(fF.L f1).trans l1', (fF.L f2).trans l2, (fF.L f3).trans l3⟩⟩
  have := A.ss
  have := B.ss
  have := C.ss
  have := D.ss
  omega
/-- the first cells of a shard -/
theorem i_sh0 {h : Hp} {x : Nat} {l1 : Int32} (o : isO h x 7) (hz : zn h = x + 1) (zo : zr h x) : ∃ m, f_X6_init x l1 14 15 h = f_X6_init_63 fz x l1 (nI 0) m ∧ zn m = x + 8 ∧ zs m ≤ zs h + 100 ∧ cf (fun a _ => a = x) h m ∧ (isO m x 7 ∧ zI m 700 x = l1 ∧ zR m 701 x = 14 ∧ zR m 702 x = 15 ∧ zR m 703 x = x + 1 ∧ zR m 704 x = x + 2 ∧ zR m 705 x = x + 3 ∧ zR m 706 x = x + 4) ∧ (zI m 707 x = 3 ∧ zI m 708 x = 0 ∧ zI m 709 x = 0 ∧ zI m 710 x = 0 ∧ zJ m 711 x = 0) ∧ (isO m (x + 1) 25 ∧ zL m (x + 1) = 5) ∧ (isO m (x + 2) 28 ∧ zL m (x + 2) = 16) ∧ (isO m (x + 3) 20 ∧ zL m (x + 3) = 16) ∧ (isO m (x + 4) 3 ∧ zI m 303 (x + 4) = 0) ∧ (zR m 300 (x + 4) = x + 5 ∧ zR m 301 (x + 4) = x + 6 ∧ zR m 302 (x + 4) = x + 7) ∧ (isO m (x + 5) 22 ∧ isO m (x + 6) 22 ∧ isO m (x + 7) 22) ∧ (zL m (x + 5) = 16 ∧ zL m (x + 6) = 16 ∧ zL m (x + 7) = 16) := by
  have h8 := o.1
  have A := mk_pR (f := 703) (a := x) (t := 25) (n := 5) hz (by omega) (by omega)
  have e1 : f_X6_init x l1 14 15 h = (fun h4 => ck (8 ≤ zn h4) (bh (pN h4 28 16) (fun h6 => bh (pR h6 704 x (zn h4)) (fun h7 => ck (8 ≤ zn h7) (bh (pN h7 20 16) (fun h9 => bh (pR h9 705 x (zn h7)) (fun h10 => ck (8 ≤ zn h10) (bh (pN h10 3 (kN 3)) (fun h12 => ck (isO h12 (zn h10) 3) ((f_X2_init (zn h10) h12).bind (fun q13 => ck (isO q13 x 7) (bh (pR q13 706 x (zn h10)) (fun h16 => bh (pI h16 707 x 3) (fun h17 => bh (pI h17 700 x l1) (fun h18 => bh (pR h18 701 x 14) (fun h19 => bh (pR h19 702 x 15) (fun h20 => f_X6_init_63 fz x l1 0 h20))))))))))))))))) (pR (pN h 25 5) 703 x (x + 1)) := by
    unfold f_X6_init
    rw [ck_yes o, ck_yes (by omega), hz]
    rfl
  rw [e1]
  generalize pR (pN h 25 5) 703 x (x + 1) = h4 at A
  have B := mk_pR (f := 704) (a := x) (t := 28) (n := 16) A.nn (by omega) (by omega)
  dsimp only
  rw [ck_yes (by rw [A.nn]; omega), bhE, bhE, A.nn]
  generalize pR (pN h4 28 16) 704 x (x + 1 + 1) = h7 at B
  have C := mk_pR (f := 705) (a := x) (t := 20) (n := 16) B.nn (by omega) (by omega)
  rw [ck_yes (by rw [B.nn]; omega), bhE, bhE, B.nn]
  generalize pR (pN h7 20 16) 705 x (x + 1 + 1 + 1) = h10 at C
  have D := mk_pN (t := 3) (n := kN 3) C.nn (by omega)
  rw [ck_yes (by rw [C.nn]; omega), bhE, C.nn]
  generalize pN h10 3 (kN 3) = h12 at D
  obtain ⟨h13, E1, E2, E3, E4, E5, E6, E7⟩ := i_ob D.oo D.nn
  have oA := A.cc.O o
  have oB := B.cc.O oA
  have oC := C.cc.O oB
  have oD := (D.cc (fun _ _ => False)).O oC
  have oE := E4.O oD
  rw [ck_yes D.oo, E1, bind_some9, ck_yes oE, bhE, bhE, bhE, bhE, bhE]
  have fF : cf (shT0 x) h13 (pR (pR (pI (pI (pR h13 706 x (x + 1 + 1 + 1 + 1)) 707 x 3) 700 x l1) 701 x 14) 702 x 15) := ((((cf_pR (S := shT0 x) ⟨rfl, Or.inl rfl⟩).tr (cf_pI ⟨rfl, Or.inr (Or.inl rfl)⟩)).tr (cf_pI ⟨rfl, Or.inr (Or.inr (Or.inl rfl))⟩)).tr (cf_pR ⟨rfl, Or.inr (Or.inr (Or.inr (Or.inl rfl)))⟩)).tr (cf_pR ⟨rfl, Or.inr (Or.inr (Or.inr (Or.inr rfl)))⟩)
  have r6 : zR (pR (pR (pI (pI (pR h13 706 x (x + 1 + 1 + 1 + 1)) 707 x 3) 700 x l1) 701 x 14) 702 x 15) 706 x = x + 4 := by
    show up2 (up2 (up2 (zR h13) 706 x (x + 4)) 701 x 14) 702 x 15 706 x = _
    rw [up2_nq (by omega), up2_nq (by omega)]; exact if_pos ⟨rfl, rfl⟩
  have r1 : zR (pR (pR (pI (pI (pR h13 706 x (x + 1 + 1 + 1 + 1)) 707 x 3) 700 x l1) 701 x 14) 702 x 15) 701 x = 14 := by
    show up2 (up2 (up2 (zR h13) 706 x (x + 4)) 701 x 14) 702 x 15 701 x = _
    rw [up2_nq (by omega)]; exact if_pos ⟨rfl, rfl⟩
  have r2 : zR (pR (pR (pI (pI (pR h13 706 x (x + 1 + 1 + 1 + 1)) 707 x 3) 700 x l1) 701 x 14) 702 x 15) 702 x = 15 := if_pos ⟨rfl, rfl⟩
  have i7 : zI (pR (pR (pI (pI (pR h13 706 x (x + 1 + 1 + 1 + 1)) 707 x 3) 700 x l1) 701 x 14) 702 x 15) 707 x = 3 := by
    show zI (pI (pI (pR h13 706 x (x + 1 + 1 + 1 + 1)) 707 x 3) 700 x l1) 707 x = 3
    rw [zI_pI, if_neg (by omega), pI_at]
  have i0 : zI (pR (pR (pI (pI (pR h13 706 x (x + 1 + 1 + 1 + 1)) 707 x 3) 700 x l1) 701 x 14) 702 x 15) 700 x = l1 := by
    show zI (pI (pI (pR h13 706 x (x + 1 + 1 + 1 + 1)) 707 x 3) 700 x l1) 700 x = l1
    rw [pI_at]
  have nF : zn (pR (pR (pI (pI (pR h13 706 x (x + 1 + 1 + 1 + 1)) 707 x 3) 700 x l1) 701 x 14) 702 x 15) = x + 8 := E2
  have sF : zs (pR (pR (pI (pI (pR h13 706 x (x + 1 + 1 + 1 + 1)) 707 x 3) 700 x l1) 701 x 14) 702 x 15) = zs h13 := rfl
  generalize pR (pR (pI (pI (pR h13 706 x (x + 1 + 1 + 1 + 1)) 707 x 3) 700 x l1) 701 x 14) 702 x 15 = k at *
  exact i_sh0k o hz zo A B C D E3 E4 E5 E6 E7 fF r6 r1 r2 i7 i0 nF sF
theorem ow_dk {s r : Nat} (hs : s < 4) (hr : r < 5) : ow0 (shA s + (8 + 2 * r) + 1) = 10 * s + r := by
  unfold ow0 shA
  rw [if_neg (by omega), if_pos (by omega), if_neg (by omega), if_pos (by omega)]
  omega
theorem ow_ob {s k : Nat} (hs : s < 4) (h5 : 5 ≤ k) (h7 : k ≤ 7) : ow0 (shA s + k) = 10 * s + k := by
  unfold ow0 shA
  rw [if_neg (by omega), if_pos (by omega), if_pos (by omega)]
  omega
theorem rcM0 : dkM dk0 := ⟨(fun r hr => by cases hr), fun z => absurd rfl z⟩
/-- a shard -/
theorem i_sh {h : Hp} {s : Nat} (hs : s < 4) (o : isO h (shA s) 7) (hz : zn h = shA s + 1) (zo : zr h (shA s)) : ∃ h1, f_X6_init (shA s) (nI s) 14 15 h = some h1 ∧ zn h1 = shA s + 146 ∧ zs h1 ≤ zs h + 10000 ∧ cf (fun a _ => a = shA s) h h1 ∧ shC h1 ow0 s (fun _ => 1) 1 sh0 := by
  have h8 := o.1
  obtain ⟨m, m1, m2, m3, m4, ⟨a1, a2, a3, a4, a5, a6, a7, a8⟩, ⟨b1, b2, b3, b4, b5⟩, ⟨c1, c2⟩, ⟨d1, d2⟩, ⟨e1, e2⟩, ⟨f1, f2⟩, ⟨g1, g2, g3⟩, ⟨k1, k2, k3⟩, ⟨l1, l2, l3⟩⟩ := i_sh0 (l1 := nI s) o hz zo
  obtain ⟨n, n1, n2, n3, n4, n5⟩ := i_dks (x := shA s) (l1 := nI s) h8 5 0 fz m (by omega) (fz_big (by omega)) a1 a5 c1 c2 m2 (fun r hr => by omega)
  have on := n4.O a1
  obtain ⟨p, p1, p2, p3, p4, p5⟩ := i_wfl (x := shA s) (s := s) h8 16 0 fz n (by omega) (fz_big (by omega)) on ((n4.R a1 (by omega)).trans a6) (n4.O d1) ((n4.L d1).trans d2) n2 (fun r hr => by omega)
  have fm : cf (fun a _ => a = shA s + 1 ∨ a = shA s + 2) m p := (n4.mono (fun a j _ z => Or.inl z)).tr (p4.mono (fun a j _ z => Or.inr z))
  have fx : cf (fun a _ => a = shA s) h p := (m4.mono (fun a j _ z => z)).tr2 fm (fun a j ha z => by rw [hz] at ha; omega)
  have q1 : ∀ r, r < 5 → zQ p (shA s + 1) r = shA s + (8 + 2 * r) := fun r hr => (p4.Q (n4.O c1) (by omega)).trans (n5 r hr).2
  have nx : ¬ (shA s = shA s + 1 ∨ shA s = shA s + 2) := by omega
  have n44 : ¬ (shA s + 4 = shA s + 1 ∨ shA s + 4 = shA s + 2) := by omega
  refine ⟨p, ?_, p2, by omega, fx, ⟨⟨fm.O a1, (fm.I a1 nx).trans a2, (fm.R a1 nx).trans a3, (fm.R a1 nx).trans a4, (fm.R a1 nx).trans a5, (fm.R a1 nx).trans a6, (fm.R a1 nx).trans a7, (fm.R a1 nx).trans a8⟩, ⟨fm.O c1, (fm.L c1).trans c2, q1⟩, ⟨fm.O d1, (fm.L d1).trans d2, fun r hr => (p5 r hr).2⟩, ⟨fm.O e1, (fm.L e1).trans e2⟩, fm.O f1⟩, ⟨(fm.I a1 nx).trans b1, (fm.I a1 nx).trans b2, (fm.I a1 nx).trans b3, (fm.I a1 nx).trans b4, (fm.J a1 nx).trans b5⟩, fun r hr => ⟨_, i_dkon (n5 r hr).1 p4 (fun j => by omega) (fun j => by omega), ow_dk hs hr, rcM0⟩, fun r hr => (p5 r hr).1, ⟨by show 0 ≤ 16; omega, fun r hr => by cases hr⟩, ⟨shA s + 5, shA s + 6, shA s + 7, ⟨(fm.R f1 n44).trans g1, (fm.R f1 n44).trans g2, (fm.R f1 n44).trans g3⟩, ⟨fm.O k1, fm.O k2, fm.O k3⟩, ⟨ow_ob hs (by omega) (by omega), ow_ob hs (by omega) (by omega), ow_ob hs (by omega) (by omega)⟩, ⟨(fm.L k1).trans l1, (fm.L k2).trans l2, (fm.L k3).trans l3, Nat.le_refl _, by omega⟩, ⟨(fm.I f1 n44).trans f2, Nat.zero_le _⟩, fun k x hk => by cases hk⟩⟩
  rw [m1, n1, p1]
/-! the program itself's constructor -/
def slfC (h : Hp) (p : Nat) : Prop := zQ h 15 p = 16 + 2 * p ∧ isO h (16 + 2 * p) 8 ∧ zR h 800 (16 + 2 * p) = 17 + 2 * p ∧ isO h (17 + 2 * p) 0 ∧ zI h 2 (17 + 2 * p) = 0 ∧ zR h 1 (17 + 2 * p) = 2
theorem slfC.on {h h1 : Hp} {S : Nat → Nat → Prop} {p : Nat} (q : slfC h p) (o15 : isO h 15 27) (f : cf S h h1) (h0 : ¬ S 15 p) (hS : ∀ a j, (a = 16 + 2 * p ∨ a = 17 + 2 * p) → ¬ S a j) : slfC h1 p := by
  obtain ⟨q1, q2, q3, q4, q5, q6⟩ := q
  exact ⟨(f.Q o15 h0).trans q1, f.O q2, (f.R q2 (hS _ _ (Or.inl rfl))).trans q3, f.O q4, (f.I q4 (hS _ _ (Or.inr rfl))).trans q5, (f.R q4 (hS _ _ (Or.inr rfl))).trans q6⟩
theorem i_shelf {h : Hp} {x : Nat} (o : isO h x 8) (hz : zn h = x + 1) : ∃ h1, f_X7_init x h = some h1 ∧ zn h1 = x + 2 ∧ zs h1 = zs h + kN 0 ∧ cf (fun a _ => a = x) h h1 ∧ zR h1 800 x = x + 1 ∧ isO h1 (x + 1) 0 ∧ zI h1 2 (x + 1) = 0 ∧ zR h1 1 (x + 1) = 2 := by
  have h8 := o.1
  have A := mk_pN (t := 0) (n := kN 0) hz (by omega)
  have e : f_X7_init x h = some (pR (pR (pI (pN h 0 (kN 0)) 0 (x + 1) 0) 1 (x + 1) 2) 800 x (x + 1)) := by
    unfold f_X7_init
    rw [ck_yes o, ck_yes (by omega), bhE, hz, ck_yes A.oo]
    unfold f_Jx4a65c_init_da8c8 f_Jxc12de_init_da8c8 f_Jxa1e45_init_da8c8
    generalize pN h 0 (kN 0) = m at A
    have oA := (A.cc (fun _ _ => False)).O o
    rw [ck_yes A.oo, ck_yes A.oo, ck_yes A.oo, bind_some9, ck_yes A.oo, bhE, bind_some9, ck_yes (show isO (pI m 0 (x + 1) 0) (x + 1) 0 from A.oo), bhE, bind_some9, ck_yes (show isO (pR (pI m 0 (x + 1) 0) 1 (x + 1) 2) x 8 from oA), bhE]
  rw [e]
  generalize pN h 0 (kN 0) = m at A
  have oA := (A.cc (fun _ _ => False)).O o
  have f : cf (fun a j => (a = x + 1 ∧ (j = 0 ∨ j = 1)) ∨ (a = x ∧ j = 800)) m (pR (pR (pI m 0 (x + 1) 0) 1 (x + 1) 2) 800 x (x + 1)) := ((cf_pI (S := fun a j => (a = x + 1 ∧ (j = 0 ∨ j = 1)) ∨ (a = x ∧ j = 800)) (Or.inl ⟨rfl, Or.inl rfl⟩)).tr (cf_pR (Or.inl ⟨rfl, Or.inr rfl⟩))).tr (cf_pR (Or.inr ⟨rfl, rfl⟩))
  refine ⟨_, rfl, A.nn, A.ss, ((A.cc _).tr2 f (fun a j ha z => z)).mono (fun a j ha z => by omega), pR_at _ _ _ _, f.O A.oo, (f.I A.oo (by omega)).trans (A.zz 2).1, ?_⟩
  show up2 (up2 (zR m) 1 (x + 1) 2) 800 x (x + 1) 1 (x + 1) = 2
  rw [up2_nq (by omega)]
  exact if_pos ⟨rfl, rfl⟩
theorem i_shelves : ∀ (m i fuel : Nat) (h : Hp), i + m = 8 → m < fuel → isO h 15 27 → zL h 15 = 8 → zn h = 16 + 2 * i → (∀ p, p < i → slfC h p) → ∃ h1, f_X10_init_39 fuel 8 14 15 (nI i) h = f_X10_init_63 fz 8 14 15 (nI 0) h1 ∧ zn h1 = 32 ∧ zs h1 ≤ zs h + 10 * m ∧ cf (fun a _ => a = 15) h h1 ∧ ∀ p, p < 8 → slfC h1 p
  | m, i, 0, _, _, hf, _, _, _, _ => absurd hf (Nat.not_lt_zero _)
  | 0, i, fuel + 1, h, hi, _, o, _, hz, hd => by
    have hi : i = 8 := hi
    subst hi
    refine ⟨h, ?_, hz, by omega, cf.rf h, hd⟩
    unfold f_X10_init_39
    rw [if_pos (by decide)]
    rfl
  | m + 1, i, fuel + 1, h, hi, hf, o, l, hz, hd => by
    have c : ¬ (8 : Int32) ≤ nI i := zi_le0 (a := 8) (by omega) (by omega) (by omega)
    have A := mk_pN (t := 8) (n := kN 8) hz (by omega)
    obtain ⟨g, g1, g2, g3, g4, g5, g6, g7, g8⟩ := i_shelf A.oo A.nn
    have fg : cf (fun a _ => a = 16 + 2 * i) h g := (A.cc _).tr g4
    have og := fg.O o
    have fq : cf (fun a j => a = 15 ∧ j = i) g (pQ g 15 i (16 + 2 * i)) := cf_pQ ⟨rfl, rfl⟩
    have f2 : cf (fun a j => a = 15 ∧ j = i) h (pQ g 15 i (16 + 2 * i)) := ((fg.mono (S1 := fun a j => (a = 15 ∧ j = i) ∨ a = 16 + 2 * i) (fun a j _ z => Or.inr z)).tr (fq.mono (S1 := fun a j => (a = 15 ∧ j = i) ∨ a = 16 + 2 * i) (fun a j _ z => Or.inl z))).mono (fun a j ha z => by omega)
    have k0 : kN 0 = 3 ∧ kN 8 = 1 := by decide
    obtain ⟨h1, x1, x2, x3, x4, x5⟩ := i_shelves m (i + 1) fuel (pQ g 15 i (16 + 2 * i)) (by omega) (by omega) og ((fg.L o).trans l) (by show zn g = _; omega) (fun p hp => by
      by_cases e : p = i
      · subst e
        refine ⟨pQ_at _ _ _ _, fq.O (g4.O A.oo), ?_, fq.O ?_, ?_, ?_⟩
        · rw [fq.R (g4.O A.oo) (by omega), g5]; omega
        · rw [show 17 + 2 * p = 16 + 2 * p + 1 by omega]; exact g6
        · rw [show 17 + 2 * p = 16 + 2 * p + 1 by omega, fq.I g6 (by omega)]; exact g7
        · rw [show 17 + 2 * p = 16 + 2 * p + 1 by omega, fq.R g6 (by omega)]; exact g8
      · exact (hd p (by omega)).on o f2 (fun z => e z.2) (fun a j ha z => by omega))
    refine ⟨h1, ?_, x2, by have := A.ss; have : zs (pQ g 15 i (16 + 2 * i)) = zs g := rfl; omega, (f2.mono (fun a j _ z => z.1)).tr x4, x5⟩
    unfold f_X10_init_39
    rw [if_neg c, ck_yes (by omega), bhE, hz, ck_yes A.oo, g1, bind_some9, ck_yes og, fg.L o, l, ck_yes (zi_in (by omega : i < 8) (by omega)), ck_yes (g4.O A.oo), zi_nat (by omega), bhE, bhE, zi_one]
    exact x1
theorem owS0 : owS ow0 := fun _ _ => rfl
theorem i_shards : ∀ (m i fuel : Nat) (h : Hp), i + m = 4 → m < fuel → isO h 8 11 → zR h 1103 8 = 13 → isO h 13 26 → zL h 13 = 4 → zn h = shA i → (∀ s, s < i → shC h ow0 s (fun _ => 1) 1 sh0 ∧ zQ h 13 s = shA s) → ∃ h1, f_X10_init_63 fuel 8 14 15 (nI i) h = some h1 ∧ zn h1 = 616 ∧ zs h1 ≤ zs h + 10100 * m ∧ cf (fun a j => a = 13 ∨ (a = 8 ∧ (j = 1101 ∨ j = 1102))) h h1 ∧ (∀ s, s < 4 → shC h1 ow0 s (fun _ => 1) 1 sh0 ∧ zQ h1 13 s = shA s) ∧ zR h1 1101 8 = 14 ∧ zR h1 1102 8 = 15
  | m, i, 0, _, _, hf, _, _, _, _, _, _ => absurd hf (Nat.not_lt_zero _)
  | 0, i, fuel + 1, h, hi, _, o, _, o13, _, hz, hd => by
    have hi : i = 4 := hi
    subst hi
    have f : cf (fun a j => a = 8 ∧ (j = 1101 ∨ j = 1102)) h (pR (pR h 1101 8 14) 1102 8 15) := (cf_pR (S := fun a j => a = 8 ∧ (j = 1101 ∨ j = 1102)) ⟨rfl, Or.inl rfl⟩).tr (cf_pR ⟨rfl, Or.inr rfl⟩)
    refine ⟨pR (pR h 1101 8 14) 1102 8 15, ?_, hz, by show zs h ≤ _; omega, f.mono (fun a j _ z => Or.inr z), fun s hs => ?_, ?_, pR_at _ _ _ _⟩
    · unfold f_X10_init_63
      rw [if_pos (by decide), ck_yes o]
      rfl
    · obtain ⟨d1, d2⟩ := hd s hs
      refine ⟨d1.off owS0 hs f (exO.rf _ _) (fun a j ha z => ?_), (f.Q o13 (by omega)).trans d2⟩
      rw [z.1, ow100 owS0 (by omega)] at ha
      omega
    · show up2 (up2 (zR h) 1101 8 14) 1102 8 15 1101 8 = 14
      rw [up2_nq (by omega)]
      exact if_pos ⟨rfl, rfl⟩
  | m + 1, i, fuel + 1, h, hi, hf, o, r3, o1, l, hz, hd => by
    have c : ¬ (4 : Int32) ≤ nI i := zi_le0 (a := 4) (by omega) (by omega) (by omega)
    have h32 : 32 ≤ shA i := by unfold shA; omega
    have A := mk_pN (t := 7) (n := kN 7) hz (by omega)
    obtain ⟨g, g1, g2, g3, g4, g5⟩ := i_sh (s := i) (by omega) A.oo A.nn A.zz
    have fg : cf (fun a _ => a = shA i) h g := (A.cc _).tr g4
    have og := fg.O o1
    have ox := fg.O o
    have fq : cf (fun a j => a = 13 ∧ j = i) g (pQ g 13 i (shA i)) := cf_pQ ⟨rfl, rfl⟩
    have f2 : cf (fun a j => a = 13 ∧ j = i) h (pQ g 13 i (shA i)) := ((fg.mono (S1 := fun a j => (a = 13 ∧ j = i) ∨ a = shA i) (fun a j _ z => Or.inr z)).tr (fq.mono (S1 := fun a j => (a = 13 ∧ j = i) ∨ a = shA i) (fun a j _ z => Or.inl z))).mono (fun a j ha z => by omega)
    have k0 : kN 7 ≤ 20 := by decide
    have e13 : ∀ a j, (a = 13 ∧ j = i) → ow0 a = 100 := fun a j z => by rw [z.1]; exact ow100 owS0 (by omega)
    obtain ⟨h1, x1, x2, x3, x4, x5, x6⟩ := i_shards m (i + 1) fuel (pQ g 13 i (shA i)) (by omega) (by omega) ox ((fg.R o (by omega)).trans r3) og ((fg.L o1).trans l) (by show zn g = _; unfold shA at *; omega) (fun s hs => by
      by_cases e : s = i
      · subst e
        exact ⟨g5.off owS0 (by omega) fq (exO.rf _ _) (fun a j ha z => by rw [e13 a j z] at ha; omega), pQ_at _ _ _ _⟩
      · obtain ⟨d1, d2⟩ := hd s (by omega)
        exact ⟨d1.off owS0 (by omega) f2 (exO.rf _ _) (fun a j ha z => by rw [e13 a j z] at ha; omega), (f2.Q o1 (by omega)).trans d2⟩)
    refine ⟨h1, ?_, x2, by have := A.ss; have : zs (pQ g 13 i (shA i)) = zs g := rfl; omega, (f2.mono (fun a j _ z => Or.inl z.1)).tr x4, x5, x6⟩
    unfold f_X10_init_63
    rw [if_neg c, ck_yes o, ck_yes (by omega), bhE, hz, ck_yes A.oo, g1, bind_some9, r3, ck_yes og, fg.L o1, l, ck_yes (zi_in (by omega : i < 4) (by omega)), ck_yes (g5.1.1.1), zi_nat (by omega), bhE, bhE, zi_one]
    exact x1
theorem zs_pI9 (h : Hp) (f a : Nat) (v : Int32) : zs (pI h f a v) = zs h := rfl
theorem zn_pR9 (h : Hp) (f a v : Nat) : zn (pR h f a v) = zn h := rfl
/-- the tape -/
theorem i_tape {h : Hp} (o : isO h 9 4) (hz : zn h = 10) (zo : zr h 9) : ∃ h1, f_X3_init 9 h = some h1 ∧ zn h1 = 13 ∧ zs h1 = zs h + 790 ∧ cf (fun a _ => a = 9) h h1 ∧ tpT h1 [] ∧ zI h1 405 9 = -1 := by
  have A := mk_pR (f := 400) (a := 9) (t := 21) (n := 300) hz (by omega) (by omega)
  have e1 : f_X3_init 9 h = (fun h4 => ck (8 ≤ zn h4) (bh (pN h4 22 480) (fun h6 => bh (pR h6 401 9 (zn h4)) (fun h7 => ck (8 ≤ zn h7) (bh (pN h7 22 10) (fun h9 => bh (pR h9 402 9 (zn h7)) (fun h10 => bh (pI h10 405 9 (-1)) (fun h11 => some h11)))))))) (pR (pN h 21 300) 400 9 10) := by
    unfold f_X3_init
    rw [ck_yes o, ck_yes (by omega), hz]
    rfl
  rw [e1]
  generalize pR (pN h 21 300) 400 9 10 = h4 at A
  have nA : zn h4 = 11 := A.nn
  have B := mk_pR (f := 401) (a := 9) (t := 22) (n := 480) nA (by omega) (by omega)
  dsimp only
  rw [ck_yes (by rw [nA]; omega), bhE, bhE, nA]
  generalize pR (pN h4 22 480) 401 9 11 = h7 at B
  have nB : zn h7 = 12 := B.nn
  have C := mk_pR (f := 402) (a := 9) (t := 22) (n := 10) nB (by omega) (by omega)
  rw [ck_yes (by rw [nB]; omega), bhE, bhE, bhE, nB]
  generalize pR (pN h7 22 10) 402 9 12 = h10 at C
  have nC : zn h10 = 13 := C.nn
  have oA := A.cc.O o
  have oB := B.cc.O oA
  have oC := C.cc.O oB
  have fD : cf (fun a j => a = 9 ∧ j = 405) h10 (pI h10 405 9 (-1)) := cf_pI ⟨rfl, rfl⟩
  have mo : ∀ {g g1 : Hp} {f : Nat}, cf (fun p j => p = 9 ∧ j = f) g g1 → cf (fun a _ => a = 9) g g1 := fun c => c.mono (fun a j _ z => z.1)
  have e3 : zI (pI h10 405 9 (-1)) 403 9 = 0 := by
    rw [fD.I oC (by omega), C.cc.I oB (by omega), B.cc.I oA (by omega), A.cc.I o (by omega)]
    exact (zo 403).1
  refine ⟨pI h10 405 9 (-1), rfl, (zn_pI _ _ _ _).trans nC, ?_, (((mo A.cc).tr (mo B.cc)).tr (mo C.cc)).tr (mo fD), ⟨⟨fD.O oC, ?_, ?_, ?_⟩, ⟨fD.O (C.cc.O (B.cc.O A.oo)), ?_⟩, ⟨fD.O (C.cc.O B.oo), ?_⟩, ⟨fD.O C.oo, (fD.L C.oo).trans C.ll⟩, e3, txt0, fun k x hk => by simp at hk⟩, pI_at _ _ _ _⟩
  · rw [show zs (pI h10 405 9 (-1)) = zs h10 from zs_pI9 _ _ _ _]
    have := A.ss; have := B.ss; have := C.ss; omega
  · rw [fD.R oC (by omega), C.cc.R oB (by omega), B.cc.R oA (by omega)]; exact A.rr
  · rw [fD.R oC (by omega), C.cc.R oB (by omega)]; exact B.rr
  · rw [fD.R oC (by omega)]; exact C.rr
  · rw [fD.L (C.cc.O (B.cc.O A.oo)), C.cc.L (B.cc.O A.oo), B.cc.L A.oo]; exact A.ll
  · rw [fD.L (C.cc.O B.oo), C.cc.L B.oo]; exact B.ll
/-- the program itself -/
theorem i_class {h : Hp} (o : isO h 8 11) (hz : zn h = 9) (zo : zr h 8) : ∃ h1, f_X10_init 8 h = some h1 ∧ zn h1 = 616 ∧ zs h1 ≤ zs h + 45000 ∧ tpC h1 ∧ tpT h1 [] ∧ zI h1 405 9 = -1 ∧ zI h1 1104 8 = 0 ∧ (isO h1 14 1 ∧ zI h1 100 14 = 0) ∧ (isO h1 15 27 ∧ zL h1 15 = 8) ∧ (∀ p, p < 8 → slfC h1 p) ∧ ∀ s, s < 4 → shC h1 ow0 s (fun _ => 1) 1 sh0 := by
  have P := mk_pN (t := 4) (n := kN 4) hz (by omega)
  obtain ⟨a, a1, a2, a3, a4, a5, a6⟩ := i_tape P.oo P.nn P.zz
  have oa : isO a 8 11 := a4.O ((P.cc (fun _ _ => False)).O o)
  have fa : cf (fun _ _ => False) h a := (P.cc _).tr2 a4 (fun p j ha z => by rw [hz] at ha; omega)
  have fb : cf (fun p j => p = 8 ∧ j = 1100) a (pR a 1100 8 9) := cf_pR ⟨rfl, rfl⟩
  have rb : zR (pR a 1100 8 9) 1100 8 = 9 := pR_at _ _ _ _
  have sb : zs (pR a 1100 8 9) = zs a := rfl
  have Q := mk_pR (h := pR a 1100 8 9) (f := 1103) (a := 8) (t := 26) (n := 4) ((zn_pR9 _ _ _ _).trans a2) (by omega) (by omega)
  have e1 : f_X10_init 8 h = (fun h10 => ck (8 ≤ zn h10) (bh (pN h10 1 (kN 1)) (fun h12 => ck (isO h12 (zn h10) 1) ((f_X0_init (zn h10) h12).bind (fun q13 => bh (zn h10) (fun x15 => ck (8 ≤ zn q13) (bh (pN q13 27 8) (fun h17 => bh (zn q13) (fun x18 => f_X10_init_39 fz 8 x15 x18 0 h17))))))))) (pR (pN (pR a 1100 8 9) 26 4) 1103 8 13) := by
    unfold f_X10_init
    rw [ck_yes o, ck_yes (by omega), bhE, hz, ck_yes P.oo, a1, bind_some9, ck_yes oa, bhE, zn_pR9, a2, ck_yes (by omega)]
    rfl
  rw [e1]
  generalize pR (pN (pR a 1100 8 9) 26 4) 1103 8 13 = b at Q
  generalize pR a 1100 8 9 = a' at *
  have C := mk_pN (t := 1) (n := kN 1) Q.nn (by omega)
  dsimp only
  unfold f_X0_init
  rw [ck_yes (by rw [Q.nn]; omega), bhE, Q.nn, ck_yes C.oo, ck_yes C.oo, bind_some9, bhE]
  generalize pN b 1 (kN 1) = c at C
  have D := mk_pN (t := 27) (n := 8) C.nn (by omega)
  rw [ck_yes (by rw [C.nn]; omega), bhE, C.nn, bhE]
  generalize pN c 27 8 = d at D
  obtain ⟨g, g1, g2, g3, g4, g5⟩ := i_shelves 8 0 fz d (by omega) (fz_big (by omega)) D.oo D.ll D.nn (fun p hp => by omega)
  have fQ : cf (fun p j => p = 8 ∧ (j = 1100 ∨ j = 1103)) a b := (fb.mono (fun p j _ z => ⟨z.1, Or.inl z.2⟩)).tr (Q.cc.mono (fun p j _ z => ⟨z.1, Or.inr z.2⟩))
  have ob := fQ.O oa
  have fc : cf (fun p _ => p = 15) b g := ((C.cc _).tr (D.cc _)).tr g4
  have og := fc.O ob
  have fcc : cf (fun p _ => p = 15) c g := (D.cc _).tr g4
  obtain ⟨k, k1, k2, k3, k4, k5, k6, k7⟩ := i_shards 4 0 fz g (by omega) (fz_big (by omega)) og ((fc.R ob (by omega)).trans Q.rr) (fc.O Q.oo) ((fc.L Q.oo).trans Q.ll) g2 (fun s hs => by omega)
  have k4' : kN 4 ≤ 10 ∧ kN 1 ≤ 10 := by decide
  have o9 := a5.1.1
  have fk : cf (fun p j => p = 8 ∨ p = 15 ∨ p = 13) a k := ((fQ.mono (fun p j _ z => Or.inl z.1)).tr (fc.mono (fun p j _ z => Or.inr (Or.inl z)))).tr (k4.mono (fun p j _ z => by omega))
  have o15 := g4.O D.oo
  refine ⟨k, ?_, k2, ?_, ⟨⟨k4.O og, ?_, k6, k7, ?_⟩, k4.O (fc.O Q.oo), (k4.L (fc.O Q.oo)).trans ((fc.L Q.oo).trans Q.ll), fun s hs => (k5 s hs).2⟩, a5.on fk (fun j _ _ => by omega) (fun j => by omega), (fk.I o9 (by omega)).trans a6, ?_, ⟨k4.O (fcc.O C.oo), ?_⟩, ⟨k4.O o15, (k4.L o15).trans ((g4.L D.oo).trans D.ll)⟩, fun p hp => (g5 p hp).on o15 k4 (by omega) (fun p' j hp' z => by omega), fun s hs => (k5 s hs).1⟩
  · rw [← k1]; exact g1
  · have := P.ss; have := Q.ss; have := C.ss; have := D.ss; omega
  · rw [k4.R og (by omega), fc.R ob (by omega), Q.cc.R (fb.O oa) (by omega)]; exact rb
  · rw [k4.R og (by omega), fc.R ob (by omega)]; exact Q.rr
  · rw [k4.I og (by omega), fc.I ob (by omega), fQ.I oa (by omega), fa.I o (fun z => z)]; exact (zo 1104).1
  · rw [k4.I (fcc.O C.oo) (by omega), fcc.I C.oo (by omega)]; exact (C.zz 100).1
