/-! THE RULES THAT LISTS NEED: the empty row from outside, rows of objects, class objects, clones -/
abbrev nDC : String := "DEFAULTCAPACITY_EMPTY_ELEMENTDATA"
abbrev nOR : String := "[Ljava/lang/Object;"
section LI
variable {G : Gd} {M : Mx} {d pc : Nat} {L : List (Nat × Value)} {st : List Value} {h : Hp} {Z : Cf → Prop}
theorem zDC {s : State} (hO : zOK G) (hE : zEn G s) : va_Z "java/util/ArrayList" nDC nOR (.ref (gX G 2)) (zA G) s s.heap ∧ va_T (.object "java/lang/Object") (gX G 2) 0 (fun _ => .null) (zA G) s s.heap := by
  obtain ⟨a0, hb, hw, hv, -⟩ := hO.2.2.2.2
  have hA : ∀ a : Nat, a < (g0 G).heap.size → ¬ zA G a := fun a h q => absurd h (Nat.not_lt.mpr q)
  have hkeep : ∀ a : Nat, a < (g0 G).heap.size → ¬ zA G a → s.heap[a]? = (g0 G).heap[a]? := fun a h _ => hE.2.2 a h
  have hs := flat_of_before _ hb
  have h1 := va_Zof (A := zA G) (hw (.laysStatic "java/util/ArrayList" nDC nOR) (by decide +kernel)) (hw (.initialized "java/util/ArrayList") (by decide +kernel)) hv hA
  obtain ⟨t, ht, hT⟩ := va_Tof (N := 0) (f := fun _ => .null) (A := zA G) (by decide) (hs (Cond.arrayOf (.static "java/util/ArrayList" nDC nOR) (.object "java/lang/Object")) (by decide +kernel)) (va_eqt (hs (Cond.eq (.length (.static "java/util/ArrayList" nDC nOR)) (.int 0)) (by decide +kernel))) (fun j hj => absurd hj (Nat.not_lt_zero j)) hA
  have e : t = gX G 2 := by
    have := ht.symm.trans hv
    cases this
    rfl
  subst e
  exact ⟨(h1.kept hkeep).moved hE.1.alike, (hT.kept hkeep).moved hE.1.alike⟩
theorem g_gets {x : Nat} (hd : decode M.2.1 pc = .ok (.getstatic x, 3)) (hlk : Cond.fieldLink M.1 x "java/util/ArrayList" nDC nOR ∈ lw_tbl) (k : Ev G M d (pc + 3) L (zrf 2 :: st) h Z) : Ev G M d pc L st h Z := Ev.same k (fun p l e R s m args below meth c H locs cells slots Q ls B hH hS hl kk => va_gets B.2.2.1 B.2.2.2.1 (zDC B.1 B.2.1).1 hS B.2.2.2.2.2.1 (B.2.1.word B.1 hlk rfl) (fun _ q => q) hd (kk ls hl))
/-- the length of a row of objects, the empty one from outside too -/
def zLx (h : Hp) (c : Nat) : Nat := if c = 2 then 0 else zL h c
theorem g_alenX {c : Nat} (hd : decode M.2.1 pc = .ok (.arraylength, 1)) (ho : c = 2 ∨ isO h c 29) {v : Int32} (hv : nI (zLx h c) = v) (k : Ev G M d (pc + 1) L (.int v :: st) h Z) : Ev G M d pc L (zrf c :: st) h Z := by
  by_cases hc : c = 2
  · subst hc
    exact Ev.same k (fun p l e R s m args below meth c H locs cells slots Q ls B hH hS hl kk => va_tlen B.2.2.1 B.2.2.2.1 (zDC B.1 B.2.1).2 hS hv hd (kk ls hl))
  · have ho := ho.resolve_left hc
    exact g_alen hd ho (by decide) (by decide) (by rw [← hv]; unfold zLx; rw [if_neg hc]) k
/-- a thing of the pool, or the empty row -/
abbrev okc (c : Nat) : Prop := c = 2 ∨ 8 ≤ c
theorem zrf_va (c : Nat) : zcv G (zrf c) = va_rf (if c = 0 then none else some (zad G c)) := by
  cases c with
  | zero => rfl
  | succ r => rw [if_neg (by omega)]; rfl
theorem okc_inj (hO : zOK G) {a b : Nat} (ha : okc a) (hb : okc b) : ((if a = 0 then none else some (zad G a)) = (if b = 0 then none else some (zad G b))) ↔ a = b := by
  have h8 := hO.2.2.2.1
  refine ⟨fun q => ?_, fun q => by rw [q]⟩
  have e2 : zad G 2 = gX G 2 := rfl
  have l2 := h8 2 (by decide)
  have big : ∀ c, 8 ≤ c → zad G c = (g0 G).heap.size + (c - 8) := fun c hc => by unfold zad; rw [if_neg (by omega)]
  rw [if_neg (by omega), if_neg (by omega)] at q
  have q := Option.some.inj q
  rcases ha with rfl | ha <;> rcases hb with rfl | hb
  · rfl
  · rw [e2, big _ hb] at q; omega
  · rw [e2, big _ ha] at q; omega
  · rw [big _ ha, big _ hb] at q; omega
theorem g_acmpE {a b : Nat} {off : Int} {tgt : Nat} (hd : decode M.2.1 pc = .ok (.if_acmp .eq off, 3)) (ht : (pc : Int) + off = (tgt : Int)) (ha : okc a) (hb : okc b) (kt : a = b → Ev G M d tgt L st h Z) (kf : ¬ a = b → Ev G M d (pc + 3) L st h Z) : Ev G M d pc L (zrf b :: zrf a :: st) h Z := by
  by_cases hc : a = b
  · refine Ev.same (kt hc) (fun p l e R s m args below meth c H locs cells slots Q ls B hH hS hl kk => ?_)
    rw [List.map_cons, List.map_cons, zrf_va, zrf_va]
    exact lv_acmp_eq B.2.2.1 B.2.2.2.1 hd ht (fun _ => kk ls hl) (fun q => absurd ((okc_inj B.1 ha hb).mpr hc) q)
  · refine Ev.same (kf hc) (fun p l e R s m args below meth c H locs cells slots Q ls B hH hS hl kk => ?_)
    rw [List.map_cons, List.map_cons, zrf_va, zrf_va]
    exact lv_acmp_eq B.2.2.1 B.2.2.2.1 hd ht (fun q => absurd ((okc_inj B.1 ha hb).mp q) hc) (fun _ => kk ls hl)
/-- one and the same class object -/
theorem g_acmpN {off : Int} (hd : decode M.2.1 pc = .ok (.if_acmp .ne off, 3)) {tgt : Nat} (ht : (pc : Int) + off = (tgt : Int)) (k : Ev G M d (pc + 3) L st h Z) : Ev G M d pc L (zrf 3 :: zrf 3 :: st) h Z := by
  refine Ev.same k (fun p l e R s m args below meth c H locs cells slots Q ls B hH hS hl kk => ?_)
  rw [List.map_cons, List.map_cons, zrf_va]
  exact lv_acmp_ne B.2.2.1 B.2.2.2.1 hd ht (fun q => absurd rfl q) (fun _ => kk ls hl)
theorem zMi {s : State} (hO : zOK G) (hE : zEn G s) : va_Mi nOR (gX G 3) s := by
  obtain ⟨a0, -, -, -, hm⟩ := hO.2.2.2.2
  exact hm.moved hE.1.alike
theorem g_ldcM {x : Nat} (hd : decode M.2.1 pc = .ok (.ldc x, 2)) (hw : Cond.classLink M.1 x nOR ∈ lw_tbl) (k : Ev G M d (pc + 2) L (zrf 3 :: st) h Z) : Ev G M d pc L st h Z := Ev.same k (fun p l e R s m args below meth c H locs cells slots Q ls B hH hS hl kk => va_ldcM B.2.2.1 B.2.2.2.1 B.2.2.2.2.2.1 (B.2.1.word B.1 hw rfl) (zMi B.1 B.2.1) hd (kk ls hl))
abbrev yGC : MethodName := ⟨"java/lang/Object", "getClass", "()Ljava/lang/Class;"⟩
theorem g_getC {x c : Nat} (hd : decode M.2.1 pc = .ok (.invokevirtual x, 3)) (hlk : Cond.methodLink M.1 x yGC ∈ lw_tbl) (h1 : 1 ≤ d) (hst : (st.map fun v => v.category).sum ≤ 8) (ho : isO h c 29) (k : Ev G M d (pc + 3) L (zrf 3 :: st) h Z) : Ev G M d pc L (zrf c :: st) h Z := by
  rw [zrf_pos (isO.ne ho)]
  obtain ⟨F, ⟨k1, k2, k3⟩, hz⟩ := k
  refine ⟨F, ⟨k1, k2, ?_⟩, hz⟩
  intro p l e R s m args below meth c9 H locs cells slots Q ls B hd9 hlo hc hs hH hS hl kk
  have e9 : ((st.map (zcv G)).map fun v => v.category) = st.map fun v => v.category := by
    rw [List.map_map]
    exact List.map_congr_left (fun v _ => zcv_cat G v)
  have hdc : va_Dc s := va_Dc.moved B.2.1.1.alike (va_Dc.of (B.1.1.choose_spec (.declares yGC) (by decide +kernel)))
  refine va_getC B.2.2.1 B.2.2.2.1 (by rw [B.2.2.2.2.1]; exact hl.1.symm) B.2.2.2.2.2.1 (B.2.1.word B.1 hlk rfl) (va_Dc.use hdc) (C := nOR) (B.2.1.word B.1 (by decide +kernel) rfl) (B.2.1.word B.1 (by decide +kernel) rfl) (B.2.1.word B.1 (by decide +kernel) rfl) (zMi B.1 B.2.1) ⟨_, hH.arr ho (by decide) (by decide), rfl, ?_⟩ (by omega) (by rw [e9]; omega) hd (k3 p l e R s m args below meth c9 H locs cells slots Q ls B hd9 hlo hc hs hH hS hl kk)
  exact va_nmO (B.2.1.arr B.1 (t := 29) (by decide) (by decide)).2 (by decide +kernel)
/-- System.arraycopy over rows of objects of class 5 -/
def pCq (h : Hp) (src sp dst dp n : Nat) : Hp := (h.1, h.2.1, h.2.2.1, zI h, zE h, zR h, va_up (zQ h) dst (va_cpy (zQ h src) (zQ h dst) sp dp n), zJ h, zX h)
theorem tO_pCq {h : Hp} {c t s1 s2 s3 s4 s5 : Nat} (ho : isO h c t) : isO (pCq h s1 s2 s3 s4 s5) c t := ho
theorem g_copyq {x src dst : Nat} {sp dp n : Int32} (hd : decode M.2.1 pc = .ok (.invokestatic x, 3)) (hlk : Cond.methodLink M.1 x arraycopyName ∈ lw_tbl) (h1 : 1 ≤ d) (hst : (st.map fun v => v.category).sum ≤ 8) (ho0 : isO h src 29) (ho1 : isO h dst 29)
    (hr : (¬ sp < 0 ∧ ¬ dp < 0 ∧ ¬ n < 0) ∧ sp.toNatClampNeg + n.toNatClampNeg ≤ zL h src ∧ dp.toNatClampNeg + n.toNatClampNeg ≤ zL h dst) (hel : ∀ i, i < n.toNatClampNeg → zQ h src (sp.toNatClampNeg + i) = 0 ∨ isO h (zQ h src (sp.toNatClampNeg + i)) 5)
    (k : Ev G M d (pc + 3) L st (pCq h src sp.toNatClampNeg dst dp.toNatClampNeg n.toNatClampNeg) Z) : Ev G M d pc L (.int n :: .int dp :: zrf dst :: .int sp :: zrf src :: st) h Z := by
  obtain ⟨⟨h91, h92, h93⟩, h94, h95⟩ := hr
  rw [zrf_pos (isO.ne ho0), zrf_pos (isO.ne ho1)]
  obtain ⟨F, ⟨k1, k2, k3⟩, hz⟩ := k
  refine ⟨F, ⟨k1, k2, ?_⟩, hz⟩
  intro p l e R s m args below meth c H locs cells slots Q ls B hd9 hlo hc hs hH hS hl kk
  have nn : ∀ z : Int32, ¬ z < 0 → z.toInt = (z.toNatClampNeg : Int) := by
    intro z hz
    have hz0 : (0 : Int) ≤ z.toInt := by
      have := Int32.not_lt.mp hz
      simpa using Int32.le_iff_toInt_le.mp this
    show z.toInt = ((z.toInt.toNat : Nat) : Int)
    omega
  have e9 : ((st.map (zcv G)).map fun v => v.category) = st.map fun v => v.category := by
    rw [List.map_map]
    exact List.map_congr_left (fun v _ => zcv_cat G v)
  have hz24 : ∀ (g : Hp) (a j : Nat), zev g 29 a j = zrf (zQ g a j) := fun g a j => rfl
  have hc0 := hH.arr ho0 (by decide) (by decide)
  have hc1 := hH.arr ho1 (by decide) (by decide)
  intro T hT X
  obtain ⟨-, k0, hk0, cm0, hkk0⟩ := zarrS (t := 29) (n := zL h src) (f := fun j => zcv G (zev h 29 src j)) B.1 B.2.1 (by decide) (by decide)
  obtain ⟨-, k19, hk1, cm1, hkk1⟩ := zarrS (t := 29) (n := zL h dst) (f := fun j => zcv G (zev h 29 dst j)) B.1 B.2.1 (by decide) (by decide)
  obtain ⟨vm', X', step⟩ := X.arraycopy B.2.2.1 B.2.2.2.2.2.1 (B.2.1.word B.1 hlk rfl) (B.2.1.word B.1 (by decide +kernel) rfl) (B.2.1.word B.1 (by decide +kernel) rfl) (B.2.1.word B.1 (by decide +kernel) rfl) (src := zad G src) (dst := zad G dst) (cs := arrV (gY G 29) (zL h src) (fun j => zcv G (zev h 29 src j))) (cd := arrV (gY G 29) (zL h dst) (fun j => zcv G (zev h 29 dst j))) (srcPos := sp) (destPos := dp) (n := n) (by rw [hT]; exact hc0) (by rw [hT]; exact hc1)
    (fun _ h => by cases h) (fun _ h => by cases h) (fun h => by cases h) (fun h => by cases h) hk0 hk1 hkk0 hkk1 rfl h91 h92 h93
    (by rw [nn sp h91, nn n h93, arrV_size]; omega)
    (by rw [nn dp h92, nn n h93, arrV_size]; omega)
    (fun vm₁ hal i hi => by
      have e : (arrV (gY G 29) (zL h src) (fun j => zcv G (zev h 29 src j))).slots.getD (sp.toNatClampNeg + i) .null = zcv G (zrf (zQ h src (sp.toNatClampNeg + i))) := by
        rw [Array.getD_eq_getD_getElem?, arrV_read _ _ (by omega)]
        rfl
      rw [e]
      rcases hel i hi with q | q
      · rw [q]; exact ⟨rfl, trivial⟩
      · rw [zrf_pos (isO.ne q)]
        obtain ⟨cellV, g1, g2, g3, -⟩ := hH.obj q (by decide)
        have hcls := (B.2.1.known B.1 (i := 5) (by decide)).2
        obtain ⟨kA', comp, r1, r2, r3, -⟩ := (B.2.1.arr B.1 (t := 29) (by decide) (by decide)).2
        cases hk1.symm.trans r1
        cases hkk1.symm.trans r2
        obtain ⟨kE, hkE, -⟩ := Vm.findClass_spec r3
        obtain ⟨kC, hkC, -⟩ := hcls.2
        have hcast : va_Nw (.castable "TaskWeave$Program" "java/lang/Object") s := va_Nw.warmC B.2.1.1 (va_Nw.of rfl (B.1.1.choose_spec _ (by decide +kernel)))
        obtain ⟨c0, t0, f1, f2, f3⟩ := Cond.castable_spec (va_Nw.use (A := args) rfl hcast)
        have ec : c0 = gC G 5 := Option.some.inj (f1.symm.trans hcls.1)
        have et : t0 = cm1 := Option.some.inj (f2.symm.trans r3)
        subst ec; subst et
        obtain ⟨kC', hkC', -⟩ := hal.2.2 _ _ hkC
        obtain ⟨kE', hkE', -⟩ := hal.2.2 _ _ hkE
        refine ⟨rfl, cellV, (show T.heap[_]? = some cellV by rw [hT]; exact g1), (fun q h => by rw [g3] at h; cases h), ⟨kC', by rw [g2]; exact hkC'⟩, ⟨kE', hkE'⟩, ?_⟩
        show vm₁.assignable _ _ = true
        rw [hal.assignable, g2]
        exact f3)
    (g := F0 m pc ls (.int n :: .int dp :: .ref (zad G dst) :: .int sp :: .ref (zad G src) :: st.map (zcv G))) rfl (by rw [B.2.2.2.2.1]; exact hl.1) (rest := st.map (zcv G)) rfl (by rw [B.2.2.2.1]; exact hd) (by omega) (by
      show 2 * 0 + _ + (nativeFrameWords "java/lang/System" "arraycopy" 5 + 11) ≤ R.locals
      rw [e9]
      have : nativeFrameWords "java/lang/System" "arraycopy" 5 + 11 ≤ 40 := by decide +kernel
      omega)
  have e1 : copied (arrV (gY G 29) (zL h src) (fun j => zcv G (zev h 29 src j))) (arrV (gY G 29) (zL h dst) (fun j => zcv G (zev h 29 dst j))) sp dp n = arrV (gY G 29) (zL h dst) (fun j => zcv G (zrf (va_cpy (zQ h src) (zQ h dst) sp.toNatClampNeg dp.toNatClampNeg n.toNatClampNeg j))) :=
    va_copied (fun z => zcv G (zrf z)) _ _ (zQ h src) (zQ h dst) h94
  rw [e1] at X' step
  have hlt : zad G dst < H.size := zad_lt hH ho1.1 ho1.2.1
  generalize hcell : arrV (gY G 29) (zL h dst) (fun j => zcv G (zrf (va_cpy (zQ h src) (zQ h dst) sp.toNatClampNeg dp.toNatClampNeg n.toNatClampNeg j))) = cell at X' step
  have oq : ∀ q : Nat, q ≠ zad G dst → (H.setIfInBounds (zad G dst) cell)[q]? = H[q]? := fun q hq => by simp [Array.getElem?_setIfInBounds, Ne.symm hq]
  have hH9 : zHR G (pCq h src sp.toNatClampNeg dst dp.toNatClampNeg n.toNatClampNeg) (H.setIfInBounds (zad G dst) cell) := by
    refine hH.all ho1 (by decide) (by decide) rfl rfl rfl (fun r k => rfl) (fun r hr u k => ?_) ?_ (by simp) oq
    · unfold zev
      have e2 : zQ (pCq h src sp.toNatClampNeg dst dp.toNatClampNeg n.toNatClampNeg) r = zQ h r := va_up_ne _ _ hr
      rw [e2]
      rfl
    · have e3 : (H.setIfInBounds (zad G dst) cell)[zad G dst]? = some cell := by simp [Array.getElem?_setIfInBounds, hlt]
      rw [e3, ← hcell]
      congr 2
      funext j
      rw [hz24]
      have e4 : zQ (pCq h src sp.toNatClampNeg dst dp.toNatClampNeg n.toNatClampNeg) dst = va_cpy (zQ h src) (zQ h dst) sp.toNatClampNeg dp.toNatClampNeg n.toNatClampNeg := va_up_self _ _ _
      rw [e4]
  have hheap : ((T.setVm vm').setCell (zad G dst) cell).heap = H.setIfInBounds (zad G dst) cell := by rw [← hT]; rfl
  obtain ⟨t9, a1, b1⟩ := k3 p l e R s m args below meth c _ _ cells slots Q ls B hd9 hlo hc hs hH9 ⟨by simp; exact hS.1, fun q g1 g2 => by
      rw [oq q (fun e => g2 (by rw [e]; exact zad_A ho1.1))]
      exact hS.2.1 q g1 g2, fun q hq => by
      rcases List.mem_append.mp hq with h | h
      · exact hS.2.2 q h
      · obtain ⟨z, -, hz⟩ := List.mem_map.mp h
        rw [← hz]
        exact zad_A ho1.1⟩ hl kk _ hheap X'
  exact ⟨t9, step t9 a1, b1⟩
/-- the clone of a row of numbers: a new one with the same contents -/
def pCl (h : Hp) (t src : Nat) : Hp := ((zn h + 1, zs h + zL h src), va_up (zT h) (zn h) t, va_up (zL h) (zn h) (zL h src), (fun f a => if a = zn h then 0 else zI h f a), va_up (zE h) (zn h) (zE h src), (fun f a => if a = zn h then 0 else zR h f a), va_up (zQ h) (zn h) (fun _ => 0), (fun f a => if a = zn h then 0 else zJ h f a), va_up (zX h) (zn h) (fun _ => 0))
theorem tO_pCl {h : Hp} {c t a n : Nat} (ho : isO h c t) : isO (pCl h a n) c t := ⟨ho.1, Nat.lt_succ_of_lt ho.2.1, (va_up_ne _ _ (Nat.ne_of_lt ho.2.1)).trans ho.2.2⟩
theorem g_clone {x c t : Nat} {ad : String} (h8 : 8 ≤ zn h) (hd : decode M.2.1 pc = .ok (.invokevirtual x, 3)) (ht1 : 20 ≤ t) (ht2 : t < 24) (had : "[" ++ (kA t).toString = ad) (hlk : Cond.methodLink M.1 x ⟨ad, "clone", "()Ljava/lang/Object;"⟩ ∈ lw_tbl) (hsm : Cond.sameMethod ad "java/lang/Object" "clone" "()Ljava/lang/Object;" ∈ lw_tbl) (hsel : Cond.selects ad ⟨ad, "clone", "()Ljava/lang/Object;"⟩ ⟨"java/lang/Object", "clone", "()Ljava/lang/Object;"⟩ ∈ lw_tbl) (hcl : Cond.castable ad "java/lang/Cloneable" ∈ lw_tbl)
    (h1 : 1 ≤ d) (hst : (st.map fun v => v.category).sum ≤ 8) (ho : isO h c t) (hfit : ∀ i, i < zL h c → fits (kA t) (.int (zE h c i)) = true) (k : Ev G M d (pc + 3) L (zrf (zn h) :: st) (pCl h t c) Z) : Ev G M d pc L (zrf c :: st) h Z := by
  rw [zrf_pos (isO.ne ho)]
  rw [zn_ne h8] at k
  obtain ⟨F, ⟨k1, k2, k3⟩, hz⟩ := k
  have en : zn (pCl h t c) = zn h + 1 := rfl
  have es : zs (pCl h t c) = zs h + zL h c := rfl
  rw [en] at k1 k3
  rw [es] at k2 k3
  refine ⟨F, ⟨by omega, by omega, ?_⟩, hz⟩
  intro p l e R s m args below meth c9 H locs cells slots Q ls B hd9 hlo hc hs hH hS hl kk
  have e9 : ((st.map (zcv G)).map fun v => v.category) = st.map fun v => v.category := by
    rw [List.map_map]
    exact List.map_congr_left (fun v _ => zcv_cat G v)
  have hz24 : ∀ (g : Hp) (a j : Nat), zcv G (zev g t a j) = .int (zE g a j) := fun g a j => by unfold zev; rw [if_pos ht2]; rfl
  have hc0 := hH.arr ho ht1 (by omega)
  have hRA := (B.2.1.arr B.1 (t := t) ht1 (by omega)).2
  have hnm : s.vm.findClass ad = some (gY G t) := by
    rw [← had]
    rcases (show t = 20 ∨ t = 21 ∨ t = 22 ∨ t = 23 by omega) with q | q | q | q <;> rw [q] at hRA ⊢ <;> exact hRA
  have hcast : va_Nw (.castable ad "java/lang/Cloneable") s := va_Nw.warmC B.2.1.1 (va_Nw.of rfl (B.1.1.choose_spec _ hcl))
  obtain ⟨c0, t0', f1, f2, f3⟩ := Cond.castable_spec (va_Nw.use (A := args) rfl hcast)
  cases hnm.symm.trans f1
  intro T hT X
  have hcellT : T.heap[zad G c]? = some (arrV (gY G t) (zL h c) (fun j => zcv G (zev h t c j))) := by rw [hT]; exact hc0
  obtain ⟨-, kA1, hkA, comp, hkind⟩ := State.isArrayOf_alike X.warmed.alike (zarrS (n := 0) (f := fun _ => .null) B.1 B.2.1 ht1 (show t < 30 by omega))
  obtain ⟨-, kS, hkS, compS, hkindS⟩ := zarrS (n := 0) (f := fun _ => .null) B.1 B.2.1 ht1 (show t < 30 by omega)
  obtain ⟨vm', X', st9⟩ := X.cloneArray B.2.2.1 B.2.2.2.2.2.1 (B.2.1.word B.1 hlk rfl) (B.2.1.word B.1 hsm rfl) (B.2.1.word B.1 (by decide +kernel) rfl) (B.2.1.word B.1 (by decide +kernel) rfl) (B.2.1.word B.1 hsel rfl) (a := zad G c) (cell := arrV (gY G t) (zL h c) (fun j => zcv G (zev h t c j))) hcellT (fun k h => by cases h) (fun h => by cases h) hnm f2 f3
    (fun i v hv => by
      have hk' : T.vm.classes[gY G t]? = some kA1 := hkA
      have hf : fits (kA t) v = true := va_fit (cA := gY G t) (n := zL h c) (F := fun j => zcv G (zev h t c j)) (fun i hi => by rw [hz24]; exact hfit i hi) i v hv
      show T.fitsSlot (gY G t) _ i v = true
      simpa [State.fitsSlot, State.slotType?, hk', hkind] using hf)
    (g := F0 m pc ls (.ref (zad G c) :: st.map (zcv G))) rfl (by rw [B.2.2.2.2.1]; exact hl.1) rfl (by rw [B.2.2.2.1]; exact hd) (by omega) (by show 2 * 0 + _ + 14 ≤ R.locals; rw [e9]; omega) (by omega) (by rw [arrV_size]; omega) (hloader := Vm.clonesLoader_of_array hkS hkindS)
  have hcellE : ({ cls := (arrV (gY G t) (zL h c) (fun j => zcv G (zev h t c j))).cls, slots := (arrV (gY G t) (zL h c) (fun j => zcv G (zev h t c j))).slots } : Cell) = arrV (gY G t) (zL h c) (fun j => zcv G (zev h t c j)) := rfl
  rw [hcellE, arrV_size] at X'
  generalize hH1 : H.push (arrV (gY G t) (zL h c) (fun j => zcv G (zev h t c j))) = H1
  have z1 : H1.size = H.size + 1 := by rw [← hH1, Array.size_push]
  have e1 : H1[H.size]? = some (arrV (gY G t) (zL h c) (fun j => zcv G (zev h t c j))) := by rw [← hH1, Array.getElem?_push_size]
  have o1 : ∀ q : Nat, q < H.size → H1[q]? = H[q]? := fun q hq => by rw [← hH1, Array.getElem?_push, if_neg (Nat.ne_of_lt hq)]
  have hH9 : zHR G (pCl h t c) H1 := by
    refine ⟨by rw [en]; omega, by rw [z1, hH.2.1, en]; omega, fun r r8 hr => ?_⟩
    rw [en] at hr
    by_cases hq : r = zn h
    · subst hq
      refine Or.inr (Or.inl ⟨by show 20 ≤ va_up (zT h) (zn h) t (zn h) ∧ va_up (zT h) (zn h) t (zn h) < 30; rw [va_up_self]; omega, ?_⟩)
      have q1 : zT (pCl h t c) (zn h) = t := va_up_self _ _ _
      have q2 : zL (pCl h t c) (zn h) = zL h c := va_up_self _ _ _
      have q3 : zE (pCl h t c) (zn h) = zE h c := va_up_self _ _ _
      rw [q1, q2, zad_new hH, e1]
      congr 2
      funext j
      rw [hz24, hz24, q3]
    · have hne : ¬ r = zn h := hq
      refine (hH.2.2 r r8 (by omega)).kept ?_ ?_ (fun k => ?_) (fun u k => ?_) (o1 _ (zad_lt hH r8 (by omega)))
      · exact va_up_ne _ _ hne
      · exact va_up_ne _ _ hne
      · exact zfv_of _ _ _ (if_neg hne) (if_neg hne) (if_neg hne)
      · unfold zev
        have e1 : zE (pCl h t c) r = zE h r := va_up_ne _ _ hne
        have e2 : zX (pCl h t c) r = zX h r := va_up_ne _ _ hne
        have e3 : zQ (pCl h t c) r = zQ h r := va_up_ne _ _ hne
        rw [e1, e2, e3]
  have q1 : cells + 1 + (zn F.2.2.2 - (zn h + 1)) = cells + (zn F.2.2.2 - zn h) := by omega
  have q2 : slots + zL h c + (zs F.2.2.2 - (zs h + zL h c)) = slots + (zs F.2.2.2 - zs h) := by omega
  obtain ⟨t9, b1, b2⟩ := k3 p l e R s m args below meth c9 H1 locs (cells + 1) (slots + zL h c) Q ls B hd9 hlo (by omega) (by omega) hH9 (zS_new hS o1 z1) hl (by rw [q1, q2]; exact kk) ((T.setVm vm').pushCell (arrV (gY G t) (zL h c) (fun j => zcv G (zev h t c j)))) (by rw [← hH1, ← hT]; rfl) X'
  refine ⟨t9, st9 t9 ?_, b2⟩
  rw [hcellE, hT]
  have e8 : (Value.ref (zn h) :: st).map (zcv G) = Value.ref H.size :: st.map (zcv G) := by
    rw [List.map_cons, zcv_ref, zad_new hH]
  rw [e8] at b1
  exact b1
/-- the cast of a row to its own class -/
theorem g_castA {x c t : Nat} {ad : String} (hd : decode M.2.1 pc = .ok (.checkcast x, 3)) (ho : isO h c t) (ht1 : 20 ≤ t) (ht2 : t < 24) (had : "[" ++ (kA t).toString = ad) (hw : Cond.classLink M.1 x ad ∈ lw_tbl) (k : Ev G M d (pc + 3) L (zrf c :: st) h Z) : Ev G M d pc L (zrf c :: st) h Z := by
  rw [zrf_pos (isO.ne ho)] at k ⊢
  refine Ev.same k (fun p l e R s m args below meth c9 H locs cells slots Q ls B hH hS hl kk => ?_)
  have hRA := (B.2.1.arr B.1 (t := t) ht1 (by omega)).2
  have hnm : s.vm.findClass ad = some (gY G t) := by
    rw [← had]
    rcases (show t = 20 ∨ t = 21 ∨ t = 22 ∨ t = 23 by omega) with q | q | q | q <;> rw [q] at hRA ⊢ <;> exact hRA
  intro T hT X
  obtain ⟨vm', X', st9⟩ := X.checkcastYes B.2.2.1 B.2.2.2.2.2.1 (B.2.1.word B.1 hw rfl) (by rw [hT]; exact hH.arr ho ht1 (by omega)) rfl hnm (va_asg _ _) (g := F0 m pc ls (.ref (zad G c) :: st.map (zcv G))) rfl rfl (by rw [B.2.2.2.1]; exact hd)
  obtain ⟨t9, a1, b1⟩ := kk ls hl (T.setVm vm') hT X'
  exact ⟨t9, st9 t9 a1, b1⟩
/-- a field that another class declares -/
theorem r_getS {f i a : Nat} {rf : String} {v : Value} (hd : decode M.2.1 pc = .ok (.getfield i, 3)) (ho : isO h a (f / 100)) (hc : f / 100 < 13) (hk : f % 100 < kN (f / 100)) (hw : Cond.fieldLink M.1 i rf (kT (f / 100) (f % 100)).2.1 (kT (f / 100) (f % 100)).2.2.1 ∈ lw_tbl) (hsm : Cond.sameField rf (kT (f / 100) (f % 100)).1 (kT (f / 100) (f % 100)).2.1 (kT (f / 100) (f % 100)).2.2.1 ∈ lw_tbl) (hv : zfv h f a = v) (k : Ev G M d (pc + 3) L (v :: st) h Z) : Ev G M d pc L (.ref a :: st) h Z := by
  refine Ev.same k (fun p l e R s m args below meth c H locs cells slots Q ls B hH hS hl kk => ?_)
  obtain ⟨cell, q1, q2, q3, q4⟩ := hH.obj ho hc
  obtain ⟨hSl, hfc, kC, hkC, hkind⟩ := B.2.1.known B.1 hc
  obtain ⟨cf, kf', fi, fd, hi, hsl⟩ := hSl _ hk
  refine W.getf B.2.2.1 B.2.2.2.1 B.2.2.2.2.2.1 (B.2.1.word B.1 hw rfl) (u_same (B.2.1.word (args := args) B.1 hsm rfl) _ hi) (u_facts (args := args) hfc hkC (u_lays (B.2.1.lay B.1 hc) (fun _ h => h) hk) hi).1 q1 (by rw [q3]; exact fun h => by cases h) (v := zcv G v) ?_ rfl rfl hd (kk ls hl)
  rw [hsl, q4 _ hk]
  show some (zcv G (zfv h (100 * (f / 100) + f % 100) a)) = _
  rw [show 100 * (f / 100) + f % 100 = f by omega, hv]
theorem r_putS {h1 : Hp} {a f i : Nat} {rf : String} {v : Value} (hd : decode M.2.1 pc = .ok (.putfield i, 3)) (ho : isO h a (f / 100)) (hc : f / 100 < 13) (hk : f % 100 < kN (f / 100)) (hw : Cond.fieldLink M.1 i rf (kT (f / 100) (f % 100)).2.1 (kT (f / 100) (f % 100)).2.2.1 ∈ lw_tbl) (hsm : Cond.sameField rf (kT (f / 100) (f % 100)).1 (kT (f / 100) (f % 100)).2.1 (kT (f / 100) (f % 100)).2.2.1 ∈ lw_tbl)
    (hb : (kT (f / 100) (f % 100)).2.2.2 = false) (hfit : ∀ G, zfit f G v)
    (hn : zn h1 = zn h) (hsn : zs h1 = zs h) (hT : zT h1 = zT h) (hL : zL h1 = zL h) (hf : ∀ r, r ≠ a → ∀ g, zfv h1 g r = zfv h g r) (he : ∀ r u j, zev h1 u r j = zev h u r j) (hfv : ∀ j, j < kN (f / 100) → zfv h1 (100 * (f / 100) + j) a = if j = f % 100 then v else zfv h (100 * (f / 100) + j) a)
    (k : Ev G M d (pc + 3) L st h1 Z) : Ev G M d pc L (v :: .ref a :: st) h Z := by
  refine Ev.write hn hsn k (fun p l e R s m args below meth c H locs cells slots Q ls B hH hS hl kk => ?_)
  have hlay := B.2.1.lay (args := args) B.1 hc
  have hK := B.2.1.known B.1 hc
  have hap : ∀ x y, x < kN (f / 100) → y < kN (f / 100) → x ≠ y → gI G (f / 100) x ≠ gI G (f / 100) y := by
    intro x y hx hy hne
    obtain ⟨_, _, _, fa, hia, ea⟩ := hK.1 x hx
    obtain ⟨_, _, _, fb, hib, eb⟩ := hK.1 y hy
    rw [← ea, ← eb]
    refine u_apart (u_lays hlay (fun _ h => h) hx) (u_lays hlay (fun _ h => h) hy) hia hib ?_
    rw [(State.fieldFound?_type hia (k_ty _ hc x hx)).1, (State.fieldFound?_type hib (k_ty _ hc y hy)).1]
    exact k_nm _ hc x hx y hy hne
  obtain ⟨cell, q1, q2, q3, q4⟩ := hH.obj ho hc
  obtain ⟨hSl, hfc, kC, hkC, hkind⟩ := hK
  obtain ⟨cf, kf', fi, fd, hi, hsl⟩ := hSl _ hk
  have hst := (u_facts (args := args) hfc hkC (u_lays hlay (fun _ h => h) hk) hi).1
  have hlt : fd.slot < cell.slots.size := by rw [hsl]; exact k2_hasslot (q4 _ hk)
  have hlw := B.2.1.word (args := args) B.1 hw rfl
  have fin : ∀ H' : Heap, H'[zad G a]? = some (cell.setSlot fd.slot (zcv G v)) → H'.size = H.size → (∀ q, q ≠ zad G a → H'[q]? = H[q]?) → W p l e R s m args below meth c H' (locs ++ [⟨zad G a, fd.slot⟩]) cells slots Q (F0 m (pc + 3) ls (st.map (zcv G))) := by
    intro H' e1 e2 e3
    refine kk H' _ (hH.upd hn hT hL ho.1 ho.2.1 e2 e3 hf (fun r _ u j => he r u j) ?_) (hS.put e2 e3 (zad_A ho.1))
    refine Or.inl ⟨by rw [hT, ho.2.2]; exact hc, ?_⟩
    rw [hT, ho.2.2]
    refine ⟨_, e1, q2, q3, fun j hj => ?_⟩
    rw [hsl, t_set q4 hap hk (zcv G v) j hj]
    show some (updV (fun k => zcv G (zfv h (100 * (f / 100) + k) a)) (f % 100) (zcv G v) j) = some (zcv G (zfv h1 (100 * (f / 100) + j) a))
    rw [hfv j hj]
    unfold updV
    by_cases hjk : j = f % 100
    · rw [if_pos hjk, if_pos hjk]
    · rw [if_neg hjk, if_neg hjk]
  have hlw2 := hlay _ (u_in_lay hk)
  unfold u_lay at hlw2
  rw [if_neg (by rw [hb]; decide)] at hlw2
  have h6 := u_store hfc hkC hkind hlw2 hi (k_ty _ hc _ hk) (hfit G).1 (hfit G).2
  exact W.putK B.2.2.1 B.2.2.2.1 (f := fd) ⟨B.2.2.2.2.2.1, hlw, ⟨_, _, _, u_same (B.2.1.word (args := args) B.1 hsm rfl) _ hi⟩, hst⟩ (by rw [q2]; exact h6) q1 q3 hlt rfl rfl hd fin
theorem g_getIS {f i c : Nat} {rf : String} (hd : decode M.2.1 pc = .ok (.getfield i, 3)) (ho : isO h c (f / 100)) (hc : f / 100 < 13) (hk1 : f % 100 < kN (f / 100)) (hw : Cond.fieldLink M.1 i rf (kT (f / 100) (f % 100)).2.1 (kT (f / 100) (f % 100)).2.2.1 ∈ lw_tbl) (hsm : Cond.sameField rf (kT (f / 100) (f % 100)).1 (kT (f / 100) (f % 100)).2.1 (kT (f / 100) (f % 100)).2.2.1 ∈ lw_tbl) (hk : kf f = 0) {v : Int32} (hv : zI h f c = v) (k : Ev G M d (pc + 3) L (.int v :: st) h Z) : Ev G M d pc L (zrf c :: st) h Z := by
  rw [zrf_pos (isO.ne ho)]
  exact r_getS hd ho hc hk1 hw hsm (by unfold zfv; rw [if_pos hk, hv]) k
theorem g_putIS {f i c : Nat} {rf : String} {v : Int32} (hd : decode M.2.1 pc = .ok (.putfield i, 3)) (ho : isO h c (f / 100)) (hc : f / 100 < 13) (hk1 : f % 100 < kN (f / 100)) (hw : Cond.fieldLink M.1 i rf (kT (f / 100) (f % 100)).2.1 (kT (f / 100) (f % 100)).2.2.1 ∈ lw_tbl) (hsm : Cond.sameField rf (kT (f / 100) (f % 100)).1 (kT (f / 100) (f % 100)).2.1 (kT (f / 100) (f % 100)).2.2.1 ∈ lw_tbl) (hk : kf f = 0) (hb : (kT (f / 100) (f % 100)).2.2.2 = false) (hn : narrow (kt (f / 100) (f % 100)) (.int v) = .int v ∧ fits (kt (f / 100) (f % 100)) (.int v) = true) (k : Ev G M d (pc + 3) L st (pI h f c v) Z) : Ev G M d pc L (.int v :: zrf c :: st) h Z := by
  rw [zrf_pos (isO.ne ho)]
  refine r_putS (h1 := pI h f c v) hd ho hc hk1 hw hsm hb (fun G => hn) rfl rfl rfl rfl (fun r hr g => ?_) (fun r u j => rfl) (fun j hj => ?_) k
  · exact zfv_of _ _ _ (up2_ne _ _ (fun q => hr q.2)) rfl rfl
  · by_cases hjf : j = f % 100
    · rw [if_pos hjf, hjf, show 100 * (f / 100) + f % 100 = f by omega]
      unfold zfv
      rw [if_pos hk]
      exact congrArg Value.int (up2_self _ _ _ _)
    · rw [if_neg hjf]
      exact zfv_of _ _ _ (up2_ne _ _ (fun q => hjf (by have := q.1; omega))) rfl rfl
theorem g_acmpN3 {a b : Nat} {off : Int} (hd : decode M.2.1 pc = .ok (.if_acmp .ne off, 3)) {tgt : Nat} (ht : (pc : Int) + off = (tgt : Int)) (ha : a = 3) (hb : b = 3) (k : Ev G M d (pc + 3) L st h Z) : Ev G M d pc L (zrf b :: zrf a :: st) h Z := by
  subst ha; subst hb
  exact g_acmpN hd ht k
/-- a thing of class 5 into a row of objects -/
theorem g_aastO {i : Int32} {c v : Nat} (hd : decode M.2.1 pc = .ok (.aastore, 1)) (ho : isO h c 29) (hvo : isO h v 5) (hin : inR i (zL h c)) (k : Ev G M d (pc + 1) L st (pQ h c i.toNatClampNeg v) Z) : Ev G M d pc L (zrf v :: .int i :: zrf c :: st) h Z := by
  rw [zrf_pos (isO.ne ho), zrf_pos (isO.ne hvo)]
  refine Ev.write (h1 := pQ h c i.toNatClampNeg v) rfl rfl k (fun p l e R s m args below meth c9 H locs cells slots Q ls B hH hS hl kk => ?_)
  obtain ⟨cellV, g1, g2, g3, -⟩ := hH.obj hvo (by decide)
  have hcls := (B.2.1.known B.1 (i := 5) (by decide)).2
  obtain ⟨kA', comp, k1, k2, k3, -⟩ := (B.2.1.arr B.1 (t := 29) (by decide) (by decide)).2
  obtain ⟨kE, hkE, -⟩ := Vm.findClass_spec k3
  obtain ⟨kC, hkC, -⟩ := hcls.2
  have h0 : ¬ i < 0 := fun q => hin (Or.inl q)
  have hcast : va_Nw (.castable "TaskWeave$Program" "java/lang/Object") s := va_Nw.warmC B.2.1.1 (va_Nw.of rfl (B.1.1.choose_spec _ (by decide +kernel)))
  obtain ⟨c0, t0, f1, f2, f3⟩ := Cond.castable_spec (va_Nw.use (A := args) rfl hcast)
  have ec : c0 = gC G 5 := Option.some.inj (f1.symm.trans hcls.1)
  have et : t0 = comp := Option.some.inj (f2.symm.trans k3)
  subst ec; subst et
  refine W.aast B.2.2.1 B.2.2.2.1 (hH.arr ho (by decide) (by decide)) (fun q h => by cases h) (fun h => by cases h) k1 k2 rfl hkE ⟨h0, by rw [arrV_size]; exact zin_lt hin⟩ g1 (fun q h => by rw [g3] at h; cases h) (by rw [g2]; exact hkC) (by rw [g2]; exact f3) rfl rfl hd fun H1 e z oq => ?_
  exact kk H1 _ (hH.sto (v := .ref v) ho (by decide) (by decide) rfl rfl rfl (fun r k => zfv_pQ r k) (fun r hr u k => zev_pQ_ne r hr u k) (fun j => by rw [zev_pQ (by decide) j, zrf_pos (isO.ne hvo)]) e z oq) (hS.put z oq (zad_A ho.1))
end LI
