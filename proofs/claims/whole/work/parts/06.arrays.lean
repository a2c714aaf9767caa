/-! THE RULES OF ARRAYS -/
section AR
variable {G : Gd} {M : Mx} {d pc : Nat} {L : List (Nat × Value)} {st : List Value} {h h1 : Hp} {Z : Cf → Prop} {H H1 : Heap} {a t : Nat}
theorem zin {n : Nat} {cA : ClassId} {f : Nat → Value} {i : Int32} (hin : vp_in i n) : ¬ (i < 0 ∨ (arrV cA n f).slots.size ≤ i.toNatClampNeg) := by rw [arrV_size]; exact hin
theorem zin_lt {n : Nat} {i : Int32} (hin : vp_in i n) : i.toNatClampNeg < n := Nat.not_le.mp fun q => hin (Or.inr q)
theorem zread {n : Nat} {cA : ClassId} {f : Nat → Value} {i : Int32} (hin : vp_in i n) : (arrV cA n f).slots[i.toNatClampNeg]? = some (f i.toNatClampNeg) := arrV_read _ _ (zin_lt hin)
theorem zarrS {s : State} (hO : zOK G) (hE : zEn G s) {n : Nat} {f : Nat → Value} (h1 : 20 ≤ t) (h2 : t < 30) : s.isArrayOf (arrV (gY G t) n f) (kA t) := (hE.arr hO h1 h2).1 n f
theorem r_alen (hd : decode M.2.1 pc = .ok (.arraylength, 1)) (ho : isO h a t) (h1 : 20 ≤ t) (h2 : t < 30) {v : Int32} (hv : nI (zL h a) = v) (k : Ev G M d (pc + 1) L (.int v :: st) h Z) : Ev G M d pc L (.ref a :: st) h Z := by
  refine Ev.same k (fun p l e R s m args below meth c H locs cells slots Q ls B hH hS hl kk => ?_)
  refine W.alen B.2.2.1 B.2.2.2.1 (hH.arr ho h1 h2) (zarrS B.1 B.2.1 h1 h2) (n := v) ?_ rfl rfl hd (kk ls hl)
  rw [arrV_size]
  exact hv
theorem r_iald {i : Int32} (hd : decode M.2.1 pc = .ok (.iaload, 1)) (ho : isO h a 22) (hin : vp_in i (zL h a)) {v : Int32} (hv : zE h a i.toNatClampNeg = v) (k : Ev G M d (pc + 1) L (.int v :: st) h Z) : Ev G M d pc L (.int i :: .ref a :: st) h Z := by
  refine Ev.same k (fun p l e R s m args below meth c H locs cells slots Q ls B hH hS hl kk => ?_)
  refine W.iald (v := .int v) B.2.2.1 B.2.2.2.1 (hH.arr ho (by decide) (by decide)) (zarrS B.1 B.2.1 (t := 22) (by decide) (by decide)) (fun q => by cases q) (zin hin) ?_ rfl rfl hd (kk ls hl)
  rw [zread hin, ← hv]
  rfl
theorem r_bald {i : Int32} (hd : decode M.2.1 pc = .ok (.baload, 1)) (ho : isO h a 20) (hin : vp_in i (zL h a)) {v : Int32} (hv : zE h a i.toNatClampNeg = v) (k : Ev G M d (pc + 1) L (.int v :: st) h Z) : Ev G M d pc L (.int i :: .ref a :: st) h Z := by
  refine Ev.same k (fun p l e R s m args below meth c H locs cells slots Q ls B hH hS hl kk => ?_)
  refine W.bald (v := .int v) B.2.2.1 B.2.2.2.1 (hH.arr ho (by decide) (by decide)) (zarrS B.1 B.2.1 (t := 20) (by decide) (by decide)) (fun q => by cases q) (zin hin) ?_ rfl rfl hd (kk ls hl)
  rw [zread hin, ← hv]
  rfl
theorem r_zald {i : Int32} (hd : decode M.2.1 pc = .ok (.baload, 1)) (ho : isO h a 23) (hin : vp_in i (zL h a)) {v : Int32} (hv : zE h a i.toNatClampNeg = v) (k : Ev G M d (pc + 1) L (.int v :: st) h Z) : Ev G M d pc L (.int i :: .ref a :: st) h Z := by
  refine Ev.same k (fun p l e R s m args below meth c H locs cells slots Q ls B hH hS hl kk => ?_)
  refine W.zald (v := .int v) B.2.2.1 B.2.2.2.1 (hH.arr ho (by decide) (by decide)) (zarrS B.1 B.2.1 (t := 23) (by decide) (by decide)) (fun q => by cases q) (zin hin) ?_ rfl rfl hd (kk ls hl)
  rw [zread hin, ← hv]
  rfl
theorem r_cald {i : Int32} (hd : decode M.2.1 pc = .ok (.caload, 1)) (ho : isO h a 21) (hin : vp_in i (zL h a)) {v : Int32} (hv : zE h a i.toNatClampNeg = v) (k : Ev G M d (pc + 1) L (.int v :: st) h Z) : Ev G M d pc L (.int i :: .ref a :: st) h Z := by
  refine Ev.same k (fun p l e R s m args below meth c H locs cells slots Q ls B hH hS hl kk => ?_)
  refine W.cald (v := .int v) B.2.2.1 B.2.2.2.1 (hH.arr ho (by decide) (by decide)) (zarrS B.1 B.2.1 (t := 21) (by decide) (by decide)) (fun q => by cases q) (zin hin) ?_ rfl rfl hd (kk ls hl)
  rw [zread hin, ← hv]
  rfl
theorem r_lald {i : Int32} (hd : decode M.2.1 pc = .ok (.laload, 1)) (ho : isO h a 24) (hin : vp_in i (zL h a)) {v : Int64} (hv : zX h a i.toNatClampNeg = v) (k : Ev G M d (pc + 1) L (.long v :: st) h Z) : Ev G M d pc L (.int i :: .ref a :: st) h Z := by
  refine Ev.same k (fun p l e R s m args below meth c H locs cells slots Q ls B hH hS hl kk => ?_)
  refine W.lald (v := .long v) B.2.2.1 B.2.2.2.1 (hH.arr ho (by decide) (by decide)) (zarrS B.1 B.2.1 (t := 24) (by decide) (by decide)) (fun q => by cases q) (zin hin) ?_ rfl rfl hd (kk ls hl)
  rw [zread hin, ← hv]
  rfl
theorem kA_ref (h1 : 25 ≤ t) (h2 : t < 30) : ∃ C, kA t = .object C := by
  rcases (show t = 25 ∨ t = 26 ∨ t = 27 ∨ t = 28 ∨ t = 29 by omega) with rfl | rfl | rfl | rfl | rfl <;> exact ⟨_, rfl⟩
theorem r_aald {i : Int32} (hd : decode M.2.1 pc = .ok (.aaload, 1)) (ho : isO h a t) (h1 : 25 ≤ t) (h2 : t < 30) (hin : vp_in i (zL h a)) {v : Value} (hv : zrf (zQ h a i.toNatClampNeg) = v) (k : Ev G M d (pc + 1) L (v :: st) h Z) : Ev G M d pc L (.int i :: .ref a :: st) h Z := by
  refine Ev.same k (fun p l e R s m args below meth c H locs cells slots Q ls B hH hS hl kk => ?_)
  obtain ⟨C, hC⟩ := kA_ref h1 h2
  refine W.aald (v := zcv G v) (ty := kA t) B.2.2.1 B.2.2.2.1 (hH.arr ho (by omega) h2) (zarrS B.1 B.2.1 (by omega) h2) (by rw [hC]; rfl) (fun q => by cases q) (zin hin) ?_ rfl rfl hd (kk ls hl)
  rw [zread hin, ← hv]
  show some (zcv G (zev h t a _)) = _
  unfold zev
  rw [if_neg (by omega), if_neg (by omega)]
/-- a store into an array: the heap behind it -/
theorem zHR.sto {v : Value} {i : Nat} (hH : zHR G h H) (ho : isO h a t) (h1 : 20 ≤ t) (h2 : t < 30) {h9 : Hp} (hn : zn h9 = zn h) (hT : zT h9 = zT h) (hL : zL h9 = zL h) (hf : ∀ r k, zfv h9 k r = zfv h k r) (he : ∀ r, r ≠ a → ∀ u k, zev h9 u r k = zev h u r k) (hv : ∀ j, zev h9 t a j = if j = i then v else zev h t a j)
    (e : H1[zad G a]? = some ((arrV (gY G t) (zL h a) (fun j => zcv G (zev h t a j))).setSlot i (zcv G v))) (z : H1.size = H.size) (oq : ∀ q, q ≠ zad G a → H1[q]? = H[q]?) : zHR G h9 H1 := by
  refine hH.upd hn hT hL ho.1 ho.2.1 z oq (fun r _ k => hf r k) he ?_
  refine Or.inr (Or.inl ⟨by rw [hT, ho.2.2]; exact ⟨h1, h2⟩, ?_⟩)
  rw [e, hT, hL, ho.2.2, arrV_store]
  congr 2
  funext j
  rw [hv j]
  unfold updV
  by_cases hj : j = i
  · rw [if_pos hj, if_pos hj]
  · rw [if_neg hj, if_neg hj]
theorem zfv_pE {j : Nat} {x : Int32} (r k : Nat) : zfv (pE h a j x) k r = zfv h k r := rfl
theorem zfv_pQ {j x : Nat} (r k : Nat) : zfv (pQ h a j x) k r = zfv h k r := rfl
theorem zfv_pX {j : Nat} {x : Int64} (r k : Nat) : zfv (pX h a j x) k r = zfv h k r := rfl
theorem zev_pE_ne {j : Nat} {x : Int32} (r : Nat) (hr : r ≠ a) (u k : Nat) : zev (pE h a j x) u r k = zev h u r k := by
  unfold zev
  have e : zE (pE h a j x) r k = zE h r k := up2_ne _ _ (fun q => hr q.1)
  rw [e]
  rfl
theorem zev_pQ_ne {j x : Nat} (r : Nat) (hr : r ≠ a) (u k : Nat) : zev (pQ h a j x) u r k = zev h u r k := by
  unfold zev
  have e : zQ (pQ h a j x) r k = zQ h r k := up2_ne _ _ (fun q => hr q.1)
  rw [e]
  rfl
theorem zev_pX_ne {j : Nat} {x : Int64} (r : Nat) (hr : r ≠ a) (u k : Nat) : zev (pX h a j x) u r k = zev h u r k := by
  unfold zev
  have e : zX (pX h a j x) r k = zX h r k := up2_ne _ _ (fun q => hr q.1)
  rw [e]
  rfl
theorem zev_pE {i : Nat} {x : Int32} (ht : t < 24) (j : Nat) : zev (pE h a i x) t a j = if j = i then .int x else zev h t a j := by
  have e0 : ∀ g : Hp, zev g t a j = .int (zE g a j) := fun g => by unfold zev; rw [if_pos ht]
  rw [e0, e0]
  by_cases hj : j = i
  · rw [if_pos hj, hj]
    exact congrArg Value.int (up2_self _ _ _ _)
  · rw [if_neg hj]
    exact congrArg Value.int (up2_ne _ _ (fun q => hj q.2))
theorem zev_pX {i : Nat} {x : Int64} (j : Nat) : zev (pX h a i x) 24 a j = if j = i then .long x else zev h 24 a j := by
  have e0 : ∀ g : Hp, zev g 24 a j = .long (zX g a j) := fun g => rfl
  rw [e0, e0]
  by_cases hj : j = i
  · rw [if_pos hj, hj]
    exact congrArg Value.long (up2_self _ _ _ _)
  · rw [if_neg hj]
    exact congrArg Value.long (up2_ne _ _ (fun q => hj q.2))
theorem zev_pQ {i x : Nat} (ht : 24 < t) (j : Nat) : zev (pQ h a i x) t a j = if j = i then zrf x else zev h t a j := by
  have e0 : ∀ g : Hp, zev g t a j = zrf (zQ g a j) := fun g => by unfold zev; rw [if_neg (by omega), if_neg (by omega)]
  rw [e0, e0]
  by_cases hj : j = i
  · rw [if_pos hj, hj]
    exact congrArg zrf (up2_self _ _ _ _)
  · rw [if_neg hj]
    exact congrArg zrf (up2_ne _ _ (fun q => hj q.2))
theorem r_iast {i x : Int32} (hd : decode M.2.1 pc = .ok (.iastore, 1)) (ho : isO h a 22) (hin : vp_in i (zL h a)) (k : Ev G M d (pc + 1) L st (pE h a i.toNatClampNeg (x)) Z) : Ev G M d pc L (.int x :: .int i :: .ref a :: st) h Z := by
  refine Ev.write (h1 := pE h a i.toNatClampNeg (x)) rfl rfl k (fun p l e R s m args below meth c H locs cells slots Q ls B hH hS hl kk => ?_)
  refine W.iast B.2.2.1 B.2.2.2.1 (hH.arr ho (by decide) (by decide)) (zarrS B.1 B.2.1 (t := 22) (by decide) (by decide)) (fun q => by cases q) (zin hin) rfl rfl hd fun H1 e z oq => ?_
  exact kk H1 _ (hH.sto (v := .int (x)) ho (by decide) (by decide) rfl rfl rfl (fun r k => zfv_pE r k) (fun r hr u k => zev_pE_ne r hr u k) (fun j => zev_pE (by decide) j) e z oq) (hS.put z oq (zad_A ho.1))
theorem r_bast {i x : Int32} (hd : decode M.2.1 pc = .ok (.bastore, 1)) (ho : isO h a 20) (hin : vp_in i (zL h a)) (k : Ev G M d (pc + 1) L st (pE h a i.toNatClampNeg (x.toInt8.toInt32)) Z) : Ev G M d pc L (.int x :: .int i :: .ref a :: st) h Z := by
  refine Ev.write (h1 := pE h a i.toNatClampNeg (x.toInt8.toInt32)) rfl rfl k (fun p l e R s m args below meth c H locs cells slots Q ls B hH hS hl kk => ?_)
  refine W.bast B.2.2.1 B.2.2.2.1 (hH.arr ho (by decide) (by decide)) (zarrS B.1 B.2.1 (t := 20) (by decide) (by decide)) (fun q => by cases q) (zin hin) rfl rfl hd fun H1 e z oq => ?_
  exact kk H1 _ (hH.sto (v := .int (x.toInt8.toInt32)) ho (by decide) (by decide) rfl rfl rfl (fun r k => zfv_pE r k) (fun r hr u k => zev_pE_ne r hr u k) (fun j => zev_pE (by decide) j) e z oq) (hS.put z oq (zad_A ho.1))
theorem r_zast {i x : Int32} (hd : decode M.2.1 pc = .ok (.bastore, 1)) (ho : isO h a 23) (hin : vp_in i (zL h a)) (k : Ev G M d (pc + 1) L st (pE h a i.toNatClampNeg ((x &&& 1))) Z) : Ev G M d pc L (.int x :: .int i :: .ref a :: st) h Z := by
  refine Ev.write (h1 := pE h a i.toNatClampNeg ((x &&& 1))) rfl rfl k (fun p l e R s m args below meth c H locs cells slots Q ls B hH hS hl kk => ?_)
  refine W.zast B.2.2.1 B.2.2.2.1 (hH.arr ho (by decide) (by decide)) (zarrS B.1 B.2.1 (t := 23) (by decide) (by decide)) (fun q => by cases q) (zin hin) rfl rfl hd fun H1 e z oq => ?_
  exact kk H1 _ (hH.sto (v := .int ((x &&& 1))) ho (by decide) (by decide) rfl rfl rfl (fun r k => zfv_pE r k) (fun r hr u k => zev_pE_ne r hr u k) (fun j => zev_pE (by decide) j) e z oq) (hS.put z oq (zad_A ho.1))
theorem r_cast {i x : Int32} (hd : decode M.2.1 pc = .ok (.castore, 1)) (ho : isO h a 21) (hin : vp_in i (zL h a)) (k : Ev G M d (pc + 1) L st (pE h a i.toNatClampNeg ((x.toUInt32 % 65536).toInt32)) Z) : Ev G M d pc L (.int x :: .int i :: .ref a :: st) h Z := by
  refine Ev.write (h1 := pE h a i.toNatClampNeg ((x.toUInt32 % 65536).toInt32)) rfl rfl k (fun p l e R s m args below meth c H locs cells slots Q ls B hH hS hl kk => ?_)
  refine W.cast B.2.2.1 B.2.2.2.1 (hH.arr ho (by decide) (by decide)) (zarrS B.1 B.2.1 (t := 21) (by decide) (by decide)) (fun q => by cases q) (zin hin) rfl rfl hd fun H1 e z oq => ?_
  exact kk H1 _ (hH.sto (v := .int ((x.toUInt32 % 65536).toInt32)) ho (by decide) (by decide) rfl rfl rfl (fun r k => zfv_pE r k) (fun r hr u k => zev_pE_ne r hr u k) (fun j => zev_pE (by decide) j) e z oq) (hS.put z oq (zad_A ho.1))
theorem r_last {i : Int32} {x : Int64} (hd : decode M.2.1 pc = .ok (.lastore, 1)) (ho : isO h a 24) (hin : vp_in i (zL h a)) (k : Ev G M d (pc + 1) L st (pX h a i.toNatClampNeg x) Z) : Ev G M d pc L (.long x :: .int i :: .ref a :: st) h Z := by
  refine Ev.write (h1 := pX h a i.toNatClampNeg x) rfl rfl k (fun p l e R s m args below meth c H locs cells slots Q ls B hH hS hl kk => ?_)
  refine W.last B.2.2.1 B.2.2.2.1 (hH.arr ho (by decide) (by decide)) (zarrS B.1 B.2.1 (t := 24) (by decide) (by decide)) (fun q => by cases q) (zin hin) rfl rfl hd fun H1 e z oq => ?_
  exact kk H1 _ (hH.sto (v := .long x) ho (by decide) (by decide) rfl rfl rfl (fun r k => zfv_pX r k) (fun r hr u k => zev_pX_ne r hr u k) (fun j => zev_pX j) e z oq) (hS.put z oq (zad_A ho.1))
/-- a reference into an array of its class -/
theorem r_aast {i : Int32} {v ci : Nat} (hd : decode M.2.1 pc = .ok (.aastore, 1)) (ho : isO h a t) (h1 : 25 ≤ t) (h2 : t < 30) (hvo : isO h v ci) (hci : ci < 13) (hA : kA t = .object (kR ci)) (hin : vp_in i (zL h a)) (k : Ev G M d (pc + 1) L st (pQ h a i.toNatClampNeg v) Z) : Ev G M d pc L (.ref v :: .int i :: .ref a :: st) h Z := by
  refine Ev.write (h1 := pQ h a i.toNatClampNeg v) rfl rfl k (fun p l e R s m args below meth c H locs cells slots Q ls B hH hS hl kk => ?_)
  obtain ⟨cellV, g1, g2, g3, -⟩ := hH.obj hvo hci
  have hcls := (B.2.1.known B.1 hci).2
  have hRA := (B.2.1.arr B.1 (t := t) (by omega) h2).2
  rw [hA] at hRA
  obtain ⟨kA', comp, k1, k2, k3, -⟩ := hRA
  have hcomp : comp = gC G ci := Option.some.inj (k3.symm.trans hcls.1)
  subst hcomp
  obtain ⟨kC, hkC, -⟩ := hcls.2
  have h0 : ¬ i < 0 := fun q => hin (Or.inl q)
  refine W.aast B.2.2.1 B.2.2.2.1 (hH.arr ho (by omega) h2) (fun q h => by cases h) (fun h => by cases h) k1 k2 rfl hkC ⟨h0, by rw [arrV_size]; exact zin_lt hin⟩ g1 (fun q h => by rw [g3] at h; cases h) (by rw [g2]; exact hkC) (by rw [g2]; exact va_assign hcls) rfl rfl hd fun H1 e z oq => ?_
  exact kk H1 _ (hH.sto (v := .ref v) ho (by omega) h2 rfl rfl rfl (fun r k => zfv_pQ r k) (fun r hr u k => zev_pQ_ne r hr u k) (fun j => by rw [zev_pQ (by omega) j, zrf_pos (by have := hvo.1; omega)]) e z oq) (hS.put z oq (zad_A ho.1))
/-- a new array of numbers -/
theorem r_newa {ty : ArrayType} {n : Int32} {N : Nat} (hd : decode M.2.1 pc = .ok (.newarray ty, 2)) (h1 : 20 ≤ t) (h2 : t < 25) (hty : newarray.typeOf ty = kA t) (hn : ¬ n < 0) (hN : n.toNatClampNeg = N) (hb : N * componentBytes (newarray.typeOf ty) ≤ 536870912) (hw : Cond.arrayClass (newarray.typeOf ty) ∈ lw_tbl) (k : Ev G M d (pc + 2) L (.ref (zn h) :: st) (pN h t N) Z) : Ev G M d pc L (.int n :: st) h Z := by
  refine Ev.make (n := N) rfl rfl k (fun p l e R s m args below meth c H locs cells slots Q ls B hc1 hc2 hH hS hl kk => ?_)
  refine va_newaK B.2.2.1 B.2.2.2.1 (B.2.1.word B.1 hw rfl) rfl hd rfl hn hN hb hc1 hc2 rfl fun H1 cA e1 z1 o1 hAr hNm => ?_
  have hRA := (B.2.1.arr B.1 (t := t) h1 (by omega)).2
  have hcA : cA = gY G t := by
    rw [← hty] at hRA
    have : s.vm.findClass ("[" ++ (newarray.typeOf ty).toString) = some (gY G t) := by cases ty <;> exact hRA
    exact Option.some.inj (hNm.symm.trans this)
  subst hcA
  have hdv : ∀ j, defaultValue (newarray.typeOf ty) = zcv G (zev (pN h t N) t (zn h) j) := by
    intro j
    rw [hty]
    unfold zev
    have e2 : zE (pN h t N) (zn h) j = 0 := by show va_up (zE h) (zn h) (fun _ => 0) (zn h) j = 0; rw [va_up_self]
    have e3 : zX (pN h t N) (zn h) j = 0 := by show va_up (zX h) (zn h) (fun _ => 0) (zn h) j = 0; rw [va_up_self]
    rw [e2, e3]
    rcases (show t = 20 ∨ t = 21 ∨ t = 22 ∨ t = 23 ∨ t = 24 by omega) with q | q | q | q | q <;> rw [q] <;> rfl
  have hat : zAt G (pN h t N) H1 (zn h) := by
    refine Or.inr (Or.inl ⟨by rw [pN_T]; omega, ?_⟩)
    rw [pN_T, pN_L, zad_new hH, e1]
    congr 2
    funext j
    exact hdv j
  have k9 := kk H1 (zHR_new hH o1 z1 hat) (zS_new hS o1 z1)
  have e9 : (Value.ref (zn h) :: st).map (zcv G) = Value.ref H.size :: st.map (zcv G) := by
    rw [List.map_cons, zcv_ref, zad_new hH]
  rw [e9] at k9
  exact k9
/-- a new array of references -/
theorem r_newq {x : Nat} {n : Int32} {N : Nat} {C : String} (hd : decode M.2.1 pc = .ok (.anewarray x, 3)) (h1 : 25 ≤ t) (h2 : t < 30) (hA : kA t = .object C) (hn : ¬ n < 0) (hN : n.toNatClampNeg = N) (hb : N * 4 ≤ 536870912) (hw : Cond.classLink M.1 x C ∈ lw_tbl) (hv : Cond.arrayOver (.object C) ∈ lw_tbl) (k : Ev G M d (pc + 3) L (.ref (zn h) :: st) (pN h t N) Z) : Ev G M d pc L (.int n :: st) h Z := by
  refine Ev.make (n := N) rfl rfl k (fun p l e R s m args below meth c H locs cells slots Q ls B hc1 hc2 hH hS hl kk => ?_)
  subst hN
  have hover : va_AO C s := va_AO.moved B.2.1.1.alike (va_AO.of (B.1.1.choose_spec _ hv))
  refine W.anew B.2.2.1 B.2.2.2.1 B.2.2.2.2.2.1 (B.2.1.word B.1 hw rfl) (va_AO.use hover) rfl hd rfl hn hb hc1 hc2 fun cA kA' comp f1 f2 f3 f4 => ?_
  generalize hH1 : H.push ({ cls := cA, slots := Array.replicate n.toNatClampNeg .null, vm := .none } : Cell) = H1
  have z1 : H1.size = H.size + 1 := by rw [← hH1, Array.size_push]
  have e1 : H1[H.size]? = some (arrV cA n.toNatClampNeg (fun _ => .null)) := by rw [← hH1, Array.getElem?_push_size, ← arrV_new]
  have o1 : ∀ q : Nat, q < H.size → H1[q]? = H[q]? := fun q hq => by rw [← hH1, Array.getElem?_push, if_neg (Nat.ne_of_lt hq)]
  have hRA := (B.2.1.arr B.1 (t := t) (by omega) h2).2
  rw [hA] at hRA
  obtain ⟨_, _, _, _, _, k4⟩ := hRA
  have hcA : cA = gY G t := Option.some.inj (f1.symm.trans k4)
  subst hcA
  have hat : zAt G (pN h t n.toNatClampNeg) H1 (zn h) := by
    refine Or.inr (Or.inl ⟨by rw [pN_T]; omega, ?_⟩)
    rw [pN_T, pN_L, zad_new hH, e1]
    congr 2
    funext j
    unfold zev
    have e2 : zQ (pN h t n.toNatClampNeg) (zn h) j = 0 := by show va_up (zQ h) (zn h) (fun _ => 0) (zn h) j = 0; rw [va_up_self]
    rw [e2, if_neg (by omega), if_neg (by omega)]
    rfl
  have k9 := kk H1 (zHR_new hH o1 z1 hat) (zS_new hS o1 z1)
  have e9 : (Value.ref (zn h) :: st).map (zcv G) = Value.ref H.size :: st.map (zcv G) := by
    rw [List.map_cons, zcv_ref, zad_new hH]
  rw [e9] at k9
  exact k9
end AR
