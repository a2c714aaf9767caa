/-! THE SCRIPT -/
section SC
variable {G : Gd} {M : Mx} {d pc : Nat} {L : List (Nat × Value)} {st : List Value} {h : Hp} {Z : Cf → Prop} {SL : Nat} {xs : Nat → Int32} {c : Nat}
theorem zX1 {s : State} (hO : zOK G) (hE : zEn G s) (hX : va_X (gX G 1) SL xs (g0 G) (g0 G).heap) : va_X (gX G 1) SL xs s s.heap ∧ gX G 1 < s.heap.size ∧ ¬ zA G (gX G 1) := by
  have hb : gX G 1 < (g0 G).heap.size := hO.2.2.2.1 1 (by decide)
  exact ⟨(va_X.moved hE.1.alike hX).kept (hE.2.2 _ hb), Nat.lt_of_lt_of_le hb hE.2.1, fun hA => absurd hb (Nat.not_lt.mpr hA)⟩
theorem g_sld {i : Int32} (hX : va_X (gX G 1) SL xs (g0 G) (g0 G).heap) (hd : decode M.2.1 pc = .ok (.iaload, 1)) (hc : c = 1) (hin : inR i SL) (k : Ev G M d (pc + 1) L (.int (xs i.toNatClampNeg) :: st) h Z) : Ev G M d pc L (.int i :: zrf c :: st) h Z := by
  subst hc
  refine Ev.same k (fun p l e R s m args below meth c H locs cells slots Q ls B hH hS hl kk => ?_)
  obtain ⟨h1, h2, h3⟩ := zX1 B.1 B.2.1 hX
  exact va_sld B.2.2.1 B.2.2.2.1 (A := zA G) h1 h2 h3 hS hin hd (kk ls hl)
theorem g_slen (hX : va_X (gX G 1) SL xs (g0 G) (g0 G).heap) (hd : decode M.2.1 pc = .ok (.arraylength, 1)) (hc : c = 1) (k : Ev G M d (pc + 1) L (.int (nI SL) :: st) h Z) : Ev G M d pc L (zrf c :: st) h Z := by
  subst hc
  refine Ev.same k (fun p l e R s m args below meth c H locs cells slots Q ls B hH hS hl kk => ?_)
  obtain ⟨h1, h2, h3⟩ := zX1 B.1 B.2.1 hX
  exact va_slen B.2.2.1 B.2.2.2.1 (A := zA G) h1 h2 h3 hS hd (kk ls hl)
end SC
