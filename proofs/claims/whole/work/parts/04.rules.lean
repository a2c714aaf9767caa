/-! A method: its class, its bytes, its locals, is it a constructor. A configuration: pc, locals, stack, pure heap. -/
abbrev Mx : Type := String × ByteArray × Nat × Bool
abbrev Cf : Type := Nat × List (Nat × Value) × List Value × Hp
def zlm (G : Gd) (L : List (Nat × Value)) : List (Nat × Value) := L.map (fun q => (q.1, zcv G q.2))
/-- the body of the method M stands in the state s -/
def zBd (G : Gd) (M : Mx) (p : Program) (l : Launch) (s : State) (m : MethodId) (meth : Method) (c : Code) : Prop := zOK G ∧ zEn G s ∧ p.tables.exec = Jvm.exec ∧ c.code = M.2.1 ∧ c.maxLocals = M.2.2.1 ∧ s.vm.findClass M.1 = some m.cls ∧ (M.2.2.2 = true → meth.name = "<init>") ∧ meth.locks = false ∧ l.stackTraces = false
/-- from the first configuration the machine comes to the configuration F: with d frames of room, and the cells and slots that F has more -/
def Rc (G : Gd) (M : Mx) (d pc : Nat) (L : List (Nat × Value)) (st : List Value) (h : Hp) (F : Cf) : Prop :=
  zn h ≤ zn F.2.2.2 ∧ zs h ≤ zs F.2.2.2 ∧
  ∀ (p : Program) (l : Launch) (e : Env) (R : Room) (s : State) (m : MethodId) (args : Array Value) (below : List Frame) (meth : Method) (c : Code) (H : Heap) (locs : List Loc) (cells slots : Nat) (Q : State → Prop) (ls : Array Slot),
    zBd G M p l s m meth c → d ≤ R.frames → 48 * d ≤ R.locals → cells + (zn F.2.2.2 - zn h) ≤ R.cells → slots + (zs F.2.2.2 - zs h) ≤ R.slots → zHR G h H → va_S (zA G) s.heap H locs → lv_has ls M.2.2.1 (zlm G L) →
    (∀ (H1 : Heap) (locs1 : List Loc) (ls1 : Array Slot), zHR G F.2.2.2 H1 → va_S (zA G) s.heap H1 locs1 → lv_has ls1 M.2.2.1 (zlm G F.2.1) → W p l e R s m args below meth c H1 locs1 (cells + (zn F.2.2.2 - zn h)) (slots + (zs F.2.2.2 - zs h)) Q (F0 m F.1 ls1 (F.2.2.1.map (zcv G)))) →
    W p l e R s m args below meth c H locs cells slots Q (F0 m pc ls (st.map (zcv G)))
/-- .. to a configuration of which Z holds -/
def Ev (G : Gd) (M : Mx) (d pc : Nat) (L : List (Nat × Value)) (st : List Value) (h : Hp) (Z : Cf → Prop) : Prop := ∃ F, Rc G M d pc L st h F ∧ Z F
section EV
variable {G : Gd} {M : Mx} {d pc : Nat} {L : List (Nat × Value)} {st : List Value} {h : Hp} {Z : Cf → Prop}
theorem Ev.here (hz : Z (pc, L, st, h)) : Ev G M d pc L st h Z := by
  refine ⟨(pc, L, st, h), ⟨Nat.le_refl _, Nat.le_refl _, ?_⟩, hz⟩
  intro p l e R s m args below meth c H locs cells slots Q ls B hd hlo hc hs hH hS hl kk
  have k := kk H locs ls hH hS hl
  simp only [Nat.sub_self, Nat.add_zero] at k
  exact k
/-- an instruction that leaves the heap -/
theorem Ev.same {pc1 : Nat} {L1 : List (Nat × Value)} {st1 : List Value} (k : Ev G M d pc1 L1 st1 h Z)
    (row : ∀ (p : Program) (l : Launch) (e : Env) (R : Room) (s : State) (m : MethodId) (args : Array Value) (below : List Frame) (meth : Method) (c : Code) (H : Heap) (locs : List Loc) (cells slots : Nat) (Q : State → Prop) (ls : Array Slot),
      zBd G M p l s m meth c → zHR G h H → va_S (zA G) s.heap H locs → lv_has ls M.2.2.1 (zlm G L) → (∀ ls1 : Array Slot, lv_has ls1 M.2.2.1 (zlm G L1) → W p l e R s m args below meth c H locs cells slots Q (F0 m pc1 ls1 (st1.map (zcv G)))) →
      W p l e R s m args below meth c H locs cells slots Q (F0 m pc ls (st.map (zcv G)))) : Ev G M d pc L st h Z := by
  obtain ⟨F, ⟨k1, k2, k3⟩, hz⟩ := k
  refine ⟨F, ⟨k1, k2, ?_⟩, hz⟩
  intro p l e R s m args below meth c H locs cells slots Q ls B hd hlo hc hs hH hS hl kk
  exact row p l e R s m args below meth c H locs cells slots Q ls B hH hS hl (fun ls1 hl1 => k3 p l e R s m args below meth c H locs cells slots Q ls1 B hd hlo hc hs hH hS hl1 kk)
/-- an instruction that writes, and makes nothing -/
theorem Ev.write {pc1 : Nat} {st1 : List Value} {h1 : Hp} (hn : zn h1 = zn h) (hsn : zs h1 = zs h) (k : Ev G M d pc1 L st1 h1 Z)
    (row : ∀ (p : Program) (l : Launch) (e : Env) (R : Room) (s : State) (m : MethodId) (args : Array Value) (below : List Frame) (meth : Method) (c : Code) (H : Heap) (locs : List Loc) (cells slots : Nat) (Q : State → Prop) (ls : Array Slot),
      zBd G M p l s m meth c → zHR G h H → va_S (zA G) s.heap H locs → lv_has ls M.2.2.1 (zlm G L) → (∀ (H1 : Heap) (locs1 : List Loc), zHR G h1 H1 → va_S (zA G) s.heap H1 locs1 → W p l e R s m args below meth c H1 locs1 cells slots Q (F0 m pc1 ls (st1.map (zcv G)))) →
      W p l e R s m args below meth c H locs cells slots Q (F0 m pc ls (st.map (zcv G)))) : Ev G M d pc L st h Z := by
  obtain ⟨F, ⟨k1, k2, k3⟩, hz⟩ := k
  rw [hn] at k1 k3
  rw [hsn] at k2 k3
  refine ⟨F, ⟨k1, k2, ?_⟩, hz⟩
  intro p l e R s m args below meth c H locs cells slots Q ls B hd hlo hc hs hH hS hl kk
  exact row p l e R s m args below meth c H locs cells slots Q ls B hH hS hl (fun H1 locs1 hH1 hS1 => k3 p l e R s m args below meth c H1 locs1 cells slots Q ls B hd hlo hc hs hH1 hS1 hl kk)
/-- an instruction that makes n places in one new cell -/
theorem Ev.make {pc1 n : Nat} {st1 : List Value} {h1 : Hp} (hn : zn h1 = zn h + 1) (hsn : zs h1 = zs h + n) (k : Ev G M d pc1 L st1 h1 Z)
    (row : ∀ (p : Program) (l : Launch) (e : Env) (R : Room) (s : State) (m : MethodId) (args : Array Value) (below : List Frame) (meth : Method) (c : Code) (H : Heap) (locs : List Loc) (cells slots : Nat) (Q : State → Prop) (ls : Array Slot),
      zBd G M p l s m meth c → cells + 1 ≤ R.cells → slots + n ≤ R.slots → zHR G h H → va_S (zA G) s.heap H locs → lv_has ls M.2.2.1 (zlm G L) → (∀ (H1 : Heap), zHR G h1 H1 → va_S (zA G) s.heap H1 locs → W p l e R s m args below meth c H1 locs (cells + 1) (slots + n) Q (F0 m pc1 ls (st1.map (zcv G)))) →
      W p l e R s m args below meth c H locs cells slots Q (F0 m pc ls (st.map (zcv G)))) : Ev G M d pc L st h Z := by
  obtain ⟨F, ⟨k1, k2, k3⟩, hz⟩ := k
  rw [hn] at k1 k3
  rw [hsn] at k2 k3
  refine ⟨F, ⟨by omega, by omega, ?_⟩, hz⟩
  intro p l e R s m args below meth c H locs cells slots Q ls B hd hlo hc hs hH hS hl kk
  refine row p l e R s m args below meth c H locs cells slots Q ls B (by omega) (by omega) hH hS hl (fun H1 hH1 hS1 => ?_)
  have e1 : cells + 1 + (zn F.2.2.2 - (zn h + 1)) = cells + (zn F.2.2.2 - zn h) := by omega
  have e2 : slots + n + (zs F.2.2.2 - (zs h + n)) = slots + (zs F.2.2.2 - zs h) := by omega
  refine k3 p l e R s m args below meth c H1 locs (cells + 1) (slots + n) Q ls B hd hlo (by omega) (by omega) hH1 hS1 hl ?_
  rw [e1, e2]
  exact kk
theorem zlm_mem {L : List (Nat × Value)} {i : Nat} {v : Value} (hm : (i, v) ∈ L) : (i, zcv G v) ∈ zlm G L := List.mem_map.mpr ⟨(i, v), hm, rfl⟩
theorem zl_at {ls : Array Slot} {n i : Nat} {v : Value} (hl : lv_has ls n (zlm G L)) (hm : (i, v) ∈ L) : ls[i]? = some (.val (zcv G v)) := hl.2.2 _ (zlm_mem hm)
/-- the first entry of the local i -/
def zlk (L : List (Nat × Value)) (i : Nat) : Option Value := match L with
  | [] => none
  | q :: r => if q.1 = i then some q.2 else zlk r i
theorem zlk_mem {i : Nat} {v : Value} : ∀ {L : List (Nat × Value)}, zlk L i = some v → (i, v) ∈ L
  | [], hq => by cases hq
  | q :: r, hq => by
    unfold zlk at hq
    by_cases hi : q.1 = i
    · rw [if_pos hi] at hq
      cases hq
      subst hi
      exact List.mem_cons_self
    · rw [if_neg hi] at hq
      exact List.mem_cons_of_mem _ (zlk_mem hq)
/-- a store to the local i: one place, or two -/
def zst (L : List (Nat × Value)) (i : Nat) (v : Value) : List (Nat × Value) := (i, v) :: L.filter (fun q => !(q.1 == i) && !(q.1 + 1 == i && q.2.category == 2))
def zst2 (L : List (Nat × Value)) (i : Nat) (v : Value) : List (Nat × Value) := (i, v) :: L.filter (fun q => !(q.1 == i) && (!(q.1 == i + 1) && !(q.1 + 1 == i && q.2.category == 2)))
theorem zst_map (L : List (Nat × Value)) (i : Nat) (v : Value) : (i, zcv G v) :: (zlm G L).filter (fun q => !(q.1 == i) && !(q.1 + 1 == i && q.2.category == 2)) = zlm G (zst L i v) := by
  unfold zst zlm
  rw [List.map_cons, List.filter_map]
  congr 2
  refine List.filter_congr (fun q _ => ?_)
  simp only [Function.comp, zcv_cat]
theorem zst2_map (L : List (Nat × Value)) (i : Nat) (v : Value) : (i, zcv G v) :: (zlm G L).filter (fun q => !(q.1 == i) && (!(q.1 == i + 1) && !(q.1 + 1 == i && q.2.category == 2))) = zlm G (zst2 L i v) := by
  unfold zst2 zlm
  rw [List.map_cons, List.filter_map]
  congr 2
  refine List.filter_congr (fun q _ => ?_)
  simp only [Function.comp, zcv_cat]
theorem r_iadd {x y : Int32} (hd : decode M.2.1 pc = .ok (.iadd, 1)) (k : Ev G M d (pc + 1) L (.int (x + y) :: st) h Z) : Ev G M d pc L (.int y :: .int x :: st) h Z := Ev.same k (fun p l e R s m args below meth c H locs cells slots Q ls B hH hS hl kk => lv_iadd B.2.2.1 B.2.2.2.1 hd (kk ls hl))
theorem r_isub {x y : Int32} (hd : decode M.2.1 pc = .ok (.isub, 1)) (k : Ev G M d (pc + 1) L (.int (x - y) :: st) h Z) : Ev G M d pc L (.int y :: .int x :: st) h Z := Ev.same k (fun p l e R s m args below meth c H locs cells slots Q ls B hH hS hl kk => lv_isub B.2.2.1 B.2.2.2.1 hd (kk ls hl))
theorem r_imul {x y : Int32} (hd : decode M.2.1 pc = .ok (.imul, 1)) (k : Ev G M d (pc + 1) L (.int (x * y) :: st) h Z) : Ev G M d pc L (.int y :: .int x :: st) h Z := Ev.same k (fun p l e R s m args below meth c H locs cells slots Q ls B hH hS hl kk => lv_imul B.2.2.1 B.2.2.2.1 hd (kk ls hl))
theorem r_iand {x y : Int32} (hd : decode M.2.1 pc = .ok (.iand, 1)) (k : Ev G M d (pc + 1) L (.int (x &&& y) :: st) h Z) : Ev G M d pc L (.int y :: .int x :: st) h Z := Ev.same k (fun p l e R s m args below meth c H locs cells slots Q ls B hH hS hl kk => lv_iand B.2.2.1 B.2.2.2.1 hd (kk ls hl))
theorem r_ior {x y : Int32} (hd : decode M.2.1 pc = .ok (.ior, 1)) (k : Ev G M d (pc + 1) L (.int (x ||| y) :: st) h Z) : Ev G M d pc L (.int y :: .int x :: st) h Z := Ev.same k (fun p l e R s m args below meth c H locs cells slots Q ls B hH hS hl kk => lv_ior B.2.2.1 B.2.2.2.1 hd (kk ls hl))
theorem r_ixor {x y : Int32} (hd : decode M.2.1 pc = .ok (.ixor, 1)) (k : Ev G M d (pc + 1) L (.int (x ^^^ y) :: st) h Z) : Ev G M d pc L (.int y :: .int x :: st) h Z := Ev.same k (fun p l e R s m args below meth c H locs cells slots Q ls B hH hS hl kk => lv_ixor B.2.2.1 B.2.2.2.1 hd (kk ls hl))
theorem r_ishl {x y : Int32} (hd : decode M.2.1 pc = .ok (.ishl, 1)) (k : Ev G M d (pc + 1) L (.int (x <<< (y &&& 31)) :: st) h Z) : Ev G M d pc L (.int y :: .int x :: st) h Z := Ev.same k (fun p l e R s m args below meth c H locs cells slots Q ls B hH hS hl kk => lv_ishl B.2.2.1 B.2.2.2.1 hd (kk ls hl))
theorem r_ishr {x y : Int32} (hd : decode M.2.1 pc = .ok (.ishr, 1)) (k : Ev G M d (pc + 1) L (.int (x >>> (y &&& 31)) :: st) h Z) : Ev G M d pc L (.int y :: .int x :: st) h Z := Ev.same k (fun p l e R s m args below meth c H locs cells slots Q ls B hH hS hl kk => lv_ishr B.2.2.1 B.2.2.2.1 hd (kk ls hl))
theorem r_idiv {x y : Int32} (hd : decode M.2.1 pc = .ok (.idiv, 1)) (hne : ¬ y = 0) (k : Ev G M d (pc + 1) L (.int (x / y) :: st) h Z) : Ev G M d pc L (.int y :: .int x :: st) h Z := Ev.same k (fun p l e R s m args below meth c H locs cells slots Q ls B hH hS hl kk => lv_idiv B.2.2.1 B.2.2.2.1 hd hne (kk ls hl))
theorem r_irem {x y : Int32} (hd : decode M.2.1 pc = .ok (.irem, 1)) (hne : ¬ y = 0) (k : Ev G M d (pc + 1) L (.int (x - x / y * y) :: st) h Z) : Ev G M d pc L (.int y :: .int x :: st) h Z := Ev.same k (fun p l e R s m args below meth c H locs cells slots Q ls B hH hS hl kk => lv_irem B.2.2.1 B.2.2.2.1 hd hne (kk ls hl))
theorem r_ineg {x : Int32} (hd : decode M.2.1 pc = .ok (.ineg, 1)) (k : Ev G M d (pc + 1) L (.int (-x) :: st) h Z) : Ev G M d pc L (.int x :: st) h Z := Ev.same k (fun p l e R s m args below meth c H locs cells slots Q ls B hH hS hl kk => lv_ineg B.2.2.1 B.2.2.2.1 hd (kk ls hl))
theorem r_ladd {x y : Int64} (hd : decode M.2.1 pc = .ok (.ladd, 1)) (k : Ev G M d (pc + 1) L (.long (x + y) :: st) h Z) : Ev G M d pc L (.long y :: .long x :: st) h Z := Ev.same k (fun p l e R s m args below meth c H locs cells slots Q ls B hH hS hl kk => lv_ladd B.2.2.1 B.2.2.2.1 hd (kk ls hl))
theorem r_land {x y : Int64} (hd : decode M.2.1 pc = .ok (.land, 1)) (k : Ev G M d (pc + 1) L (.long (x &&& y) :: st) h Z) : Ev G M d pc L (.long y :: .long x :: st) h Z := Ev.same k (fun p l e R s m args below meth c H locs cells slots Q ls B hH hS hl kk => lv_land B.2.2.1 B.2.2.2.1 hd (kk ls hl))
theorem r_lor {x y : Int64} (hd : decode M.2.1 pc = .ok (.lor, 1)) (k : Ev G M d (pc + 1) L (.long (x ||| y) :: st) h Z) : Ev G M d pc L (.long y :: .long x :: st) h Z := Ev.same k (fun p l e R s m args below meth c H locs cells slots Q ls B hH hS hl kk => lv_lor B.2.2.1 B.2.2.2.1 hd (kk ls hl))
theorem r_lshl {x : Int64} {y : Int32} (hd : decode M.2.1 pc = .ok (.lshl, 1)) (k : Ev G M d (pc + 1) L (.long (x <<< (y.toInt64 &&& 63)) :: st) h Z) : Ev G M d pc L (.int y :: .long x :: st) h Z := Ev.same k (fun p l e R s m args below meth c H locs cells slots Q ls B hH hS hl kk => lv_lshl B.2.2.1 B.2.2.2.1 hd rfl (kk ls hl))
theorem r_lshr {x : Int64} {y : Int32} (hd : decode M.2.1 pc = .ok (.lshr, 1)) (k : Ev G M d (pc + 1) L (.long (x >>> (y.toInt64 &&& 63)) :: st) h Z) : Ev G M d pc L (.int y :: .long x :: st) h Z := Ev.same k (fun p l e R s m args below meth c H locs cells slots Q ls B hH hS hl kk => lv_lshr B.2.2.1 B.2.2.2.1 hd rfl (kk ls hl))
theorem r_lushr {x : Int64} {y : Int32} (hd : decode M.2.1 pc = .ok (.lushr, 1)) (k : Ev G M d (pc + 1) L (.long (x.toUInt64 >>> (y.toInt64.toUInt64 &&& Int64.toUInt64 63)).toInt64 :: st) h Z) : Ev G M d pc L (.int y :: .long x :: st) h Z := Ev.same k (fun p l e R s m args below meth c H locs cells slots Q ls B hH hS hl kk => lv_lushr B.2.2.1 B.2.2.2.1 hd rfl (kk ls hl))
theorem r_lcmp {x y : Int64} (hd : decode M.2.1 pc = .ok (.lcmp, 1)) (k : Ev G M d (pc + 1) L (.int (lg_cmp x y) :: st) h Z) : Ev G M d pc L (.long y :: .long x :: st) h Z := Ev.same k (fun p l e R s m args below meth c H locs cells slots Q ls B hH hS hl kk => W.lcmp B.2.2.1 B.2.2.2.1 hd (kk ls hl))
theorem r_i2l {x : Int32} (hd : decode M.2.1 pc = .ok (.i2l, 1)) (k : Ev G M d (pc + 1) L (.long x.toInt64 :: st) h Z) : Ev G M d pc L (.int x :: st) h Z := Ev.same k (fun p l e R s m args below meth c H locs cells slots Q ls B hH hS hl kk => lv_i2l B.2.2.1 B.2.2.2.1 hd rfl (kk ls hl))
theorem r_l2i {x : Int64} (hd : decode M.2.1 pc = .ok (.l2i, 1)) (k : Ev G M d (pc + 1) L (.int x.toInt32 :: st) h Z) : Ev G M d pc L (.long x :: st) h Z := Ev.same k (fun p l e R s m args below meth c H locs cells slots Q ls B hH hS hl kk => lv_l2i B.2.2.1 B.2.2.2.1 hd rfl (kk ls hl))
theorem r_i2b {x : Int32} (hd : decode M.2.1 pc = .ok (.i2b, 1)) (k : Ev G M d (pc + 1) L (.int x.toInt8.toInt32 :: st) h Z) : Ev G M d pc L (.int x :: st) h Z := Ev.same k (fun p l e R s m args below meth c H locs cells slots Q ls B hH hS hl kk => lv_i2b B.2.2.1 B.2.2.2.1 hd rfl (kk ls hl))
theorem r_i2c {x : Int32} (hd : decode M.2.1 pc = .ok (.i2c, 1)) (k : Ev G M d (pc + 1) L (.int (x.toUInt32 % 65536).toInt32 :: st) h Z) : Ev G M d pc L (.int x :: st) h Z := Ev.same k (fun p l e R s m args below meth c H locs cells slots Q ls B hH hS hl kk => lv_i2c B.2.2.1 B.2.2.2.1 hd rfl (kk ls hl))
theorem r_iconst {n : Int} {v : Int32} (hd : decode M.2.1 pc = .ok (.iconst n, 1)) (hv : Int32.ofInt n = v) (k : Ev G M d (pc + 1) L (.int v :: st) h Z) : Ev G M d pc L (st) h Z := Ev.same k (fun p l e R s m args below meth c H locs cells slots Q ls B hH hS hl kk => lv_iconst B.2.2.1 B.2.2.2.1 hd hv (kk ls hl))
theorem r_bipush {n : Int} {v : Int32} (hd : decode M.2.1 pc = .ok (.bipush n, 2)) (hv : (Int8.ofInt n).toInt32 = v) (k : Ev G M d (pc + 2) L (.int v :: st) h Z) : Ev G M d pc L (st) h Z := Ev.same k (fun p l e R s m args below meth c H locs cells slots Q ls B hH hS hl kk => lv_bipush B.2.2.1 B.2.2.2.1 hd hv (kk ls hl))
theorem r_sipush {n : Int} {v : Int32} (hd : decode M.2.1 pc = .ok (.sipush n, 3)) (hv : (Int16.ofInt n).toInt32 = v) (k : Ev G M d (pc + 3) L (.int v :: st) h Z) : Ev G M d pc L (st) h Z := Ev.same k (fun p l e R s m args below meth c H locs cells slots Q ls B hH hS hl kk => lv_sipush B.2.2.1 B.2.2.2.1 hd hv (kk ls hl))
theorem r_lconst {n : Fin 2} {v : Int64} (hd : decode M.2.1 pc = .ok (.lconst n, 1)) (hv : Int64.ofNat (n : Nat) = v) (k : Ev G M d (pc + 1) L (.long v :: st) h Z) : Ev G M d pc L (st) h Z := Ev.same k (fun p l e R s m args below meth c H locs cells slots Q ls B hH hS hl kk => lv_lconst B.2.2.1 B.2.2.2.1 hd hv (kk ls hl))
theorem r_ldc {n : Nat} {v : Int32} (hd : decode M.2.1 pc = .ok (.ldc n, 2)) (hw : Jvm.Cond.constant M.1 n v ∈ lw_tbl) (k : Ev G M d (pc + 2) L (.int v :: st) h Z) : Ev G M d pc L (st) h Z := Ev.same k (fun p l e R s m args below meth c H locs cells slots Q ls B hH hS hl kk => lv_ldc B.2.2.1 B.2.2.2.1 B.2.2.2.2.2.1 (B.2.1.word B.1 hw rfl) hd (kk ls hl))
theorem r_ldc2 {n : Nat} {v : Int64} (hd : decode M.2.1 pc = .ok (.ldc2_w n, 3)) (hw : Jvm.Cond.constantLong M.1 n v ∈ lw_tbl) (k : Ev G M d (pc + 3) L (.long v :: st) h Z) : Ev G M d pc L (st) h Z := Ev.same k (fun p l e R s m args below meth c H locs cells slots Q ls B hH hS hl kk => lv_ldc2 B.2.2.1 B.2.2.2.1 B.2.2.2.2.2.1 (B.2.1.word B.1 hw rfl) hd (kk ls hl))
theorem r_null (hd : decode M.2.1 pc = .ok (.aconst_null, 1)) (k : Ev G M d (pc + 1) L (.null :: st) h Z) : Ev G M d pc L (st) h Z := Ev.same k (fun p l e R s m args below meth c H locs cells slots Q ls B hH hS hl kk => lv_null B.2.2.1 B.2.2.2.1 hd (kk ls hl))
theorem r_iload_n {j : Fin 4} {i : Nat} {x : Int32} (hd : decode M.2.1 pc = .ok (.iload_n j, 1)) (hj : (j : Nat) = i) (hv : zlk L i = some (.int x)) (k : Ev G M d (pc + 1) L (.int x :: st) h Z) : Ev G M d pc L (st) h Z := Ev.same k (fun p l e R s m args below meth c H locs cells slots Q ls B hH hS hl kk => lv_iload_n B.2.2.1 B.2.2.2.1 hd hj (zl_at hl (zlk_mem hv)) (kk ls hl))
theorem r_iload {i : Nat} {x : Int32} (hd : decode M.2.1 pc = .ok (.iload i, 2)) (hv : zlk L i = some (.int x)) (k : Ev G M d (pc + 2) L (.int x :: st) h Z) : Ev G M d pc L (st) h Z := Ev.same k (fun p l e R s m args below meth c H locs cells slots Q ls B hH hS hl kk => lv_iload B.2.2.1 B.2.2.2.1 hd (zl_at hl (zlk_mem hv)) (kk ls hl))
theorem r_lload_n {j : Fin 4} {i : Nat} {x : Int64} (hd : decode M.2.1 pc = .ok (.lload_n j, 1)) (hj : (j : Nat) = i) (hv : zlk L i = some (.long x)) (k : Ev G M d (pc + 1) L (.long x :: st) h Z) : Ev G M d pc L (st) h Z := Ev.same k (fun p l e R s m args below meth c H locs cells slots Q ls B hH hS hl kk => lv_lload_n B.2.2.1 B.2.2.2.1 hd hj (zl_at hl (zlk_mem hv)) (kk ls hl))
theorem r_lload {i : Nat} {x : Int64} (hd : decode M.2.1 pc = .ok (.lload i, 2)) (hv : zlk L i = some (.long x)) (k : Ev G M d (pc + 2) L (.long x :: st) h Z) : Ev G M d pc L (st) h Z := Ev.same k (fun p l e R s m args below meth c H locs cells slots Q ls B hH hS hl kk => lv_lload B.2.2.1 B.2.2.2.1 hd (zl_at hl (zlk_mem hv)) (kk ls hl))
theorem r_aload_n {j : Fin 4} {i : Nat} {x : Nat} (hd : decode M.2.1 pc = .ok (.aload_n j, 1)) (hj : (j : Nat) = i) (hv : zlk L i = some (.ref x)) (k : Ev G M d (pc + 1) L (.ref x :: st) h Z) : Ev G M d pc L (st) h Z := Ev.same k (fun p l e R s m args below meth c H locs cells slots Q ls B hH hS hl kk => lv_aload_n B.2.2.1 B.2.2.2.1 hd hj (zl_at hl (zlk_mem hv)) (kk ls hl))
theorem r_aload {i : Nat} {x : Nat} (hd : decode M.2.1 pc = .ok (.aload i, 2)) (hv : zlk L i = some (.ref x)) (k : Ev G M d (pc + 2) L (.ref x :: st) h Z) : Ev G M d pc L (st) h Z := Ev.same k (fun p l e R s m args below meth c H locs cells slots Q ls B hH hS hl kk => lv_aload B.2.2.1 B.2.2.2.1 hd (zl_at hl (zlk_mem hv)) (kk ls hl))
theorem r_aload_nN {j : Fin 4} {i : Nat} (hd : decode M.2.1 pc = .ok (.aload_n j, 1)) (hj : (j : Nat) = i) (hv : zlk L i = some .null) (k : Ev G M d (pc + 1) L (.null :: st) h Z) : Ev G M d pc L (st) h Z := Ev.same k (fun p l e R s m args below meth c H locs cells slots Q ls B hH hS hl kk => lv_aload_nN B.2.2.1 B.2.2.2.1 hd hj (zl_at hl (zlk_mem hv)) (kk ls hl))
theorem r_aloadN {i : Nat} (hd : decode M.2.1 pc = .ok (.aload i, 2)) (hv : zlk L i = some .null) (k : Ev G M d (pc + 2) L (.null :: st) h Z) : Ev G M d pc L (st) h Z := Ev.same k (fun p l e R s m args below meth c H locs cells slots Q ls B hH hS hl kk => lv_aloadN B.2.2.1 B.2.2.2.1 hd (zl_at hl (zlk_mem hv)) (kk ls hl))
theorem r_istore_n {j : Fin 4} {i : Nat} {x : Int32} (hd : decode M.2.1 pc = .ok (.istore_n j, 1)) (hj : (j : Nat) = i) (hi : i < M.2.2.1) (k : Ev G M d (pc + 1) (zst L i (.int x)) st h Z) : Ev G M d pc L (.int x :: st) h Z := Ev.same k (fun p l e R s m args below meth c H locs cells slots Q ls B hH hS hl kk => lv_istore_n B.2.2.1 B.2.2.2.1 hd hj hl hi (zst_map L i (.int x)) kk)
theorem r_istore {i : Nat} {x : Int32} (hd : decode M.2.1 pc = .ok (.istore i, 2)) (hi : i < M.2.2.1) (k : Ev G M d (pc + 2) (zst L i (.int x)) st h Z) : Ev G M d pc L (.int x :: st) h Z := Ev.same k (fun p l e R s m args below meth c H locs cells slots Q ls B hH hS hl kk => lv_istore B.2.2.1 B.2.2.2.1 hd hl hi (zst_map L i (.int x)) kk)
theorem r_lstore_n {j : Fin 4} {i : Nat} {x : Int64} (hd : decode M.2.1 pc = .ok (.lstore_n j, 1)) (hj : (j : Nat) = i) (hi : i + 1 < M.2.2.1) (k : Ev G M d (pc + 1) (zst2 L i (.long x)) st h Z) : Ev G M d pc L (.long x :: st) h Z := Ev.same k (fun p l e R s m args below meth c H locs cells slots Q ls B hH hS hl kk => lv_lstore_n B.2.2.1 B.2.2.2.1 hd hj hl hi (zst2_map L i (.long x)) kk)
theorem r_lstore {i : Nat} {x : Int64} (hd : decode M.2.1 pc = .ok (.lstore i, 2)) (hi : i + 1 < M.2.2.1) (k : Ev G M d (pc + 2) (zst2 L i (.long x)) st h Z) : Ev G M d pc L (.long x :: st) h Z := Ev.same k (fun p l e R s m args below meth c H locs cells slots Q ls B hH hS hl kk => lv_lstore B.2.2.1 B.2.2.2.1 hd hl hi (zst2_map L i (.long x)) kk)
theorem r_astore_n {j : Fin 4} {i : Nat} {x : Nat} (hd : decode M.2.1 pc = .ok (.astore_n j, 1)) (hj : (j : Nat) = i) (hi : i < M.2.2.1) (k : Ev G M d (pc + 1) (zst L i (.ref x)) st h Z) : Ev G M d pc L (.ref x :: st) h Z := Ev.same k (fun p l e R s m args below meth c H locs cells slots Q ls B hH hS hl kk => lv_astore_n B.2.2.1 B.2.2.2.1 hd hj hl hi (zst_map L i (.ref x)) kk)
theorem r_astore {i : Nat} {x : Nat} (hd : decode M.2.1 pc = .ok (.astore i, 2)) (hi : i < M.2.2.1) (k : Ev G M d (pc + 2) (zst L i (.ref x)) st h Z) : Ev G M d pc L (.ref x :: st) h Z := Ev.same k (fun p l e R s m args below meth c H locs cells slots Q ls B hH hS hl kk => lv_astore B.2.2.1 B.2.2.2.1 hd hl hi (zst_map L i (.ref x)) kk)
theorem r_astore_nN {j : Fin 4} {i : Nat}  (hd : decode M.2.1 pc = .ok (.astore_n j, 1)) (hj : (j : Nat) = i) (hi : i < M.2.2.1) (k : Ev G M d (pc + 1) (zst L i (.null)) st h Z) : Ev G M d pc L (.null :: st) h Z := Ev.same k (fun p l e R s m args below meth c H locs cells slots Q ls B hH hS hl kk => lv_astore_nN B.2.2.1 B.2.2.2.1 hd hj hl hi (zst_map L i (.null)) kk)
theorem r_astoreN {i : Nat}  (hd : decode M.2.1 pc = .ok (.astore i, 2)) (hi : i < M.2.2.1) (k : Ev G M d (pc + 2) (zst L i (.null)) st h Z) : Ev G M d pc L (.null :: st) h Z := Ev.same k (fun p l e R s m args below meth c H locs cells slots Q ls B hH hS hl kk => lv_astoreN B.2.2.1 B.2.2.2.1 hd hl hi (zst_map L i (.null)) kk)
theorem r_iinc {i : Nat} {n : Int} {x v : Int32} (hd : decode M.2.1 pc = .ok (.iinc i n, 3)) (hv : zlk L i = some (.int x)) (he : x + Int32.ofInt n = v) (hi : i < M.2.2.1) (k : Ev G M d (pc + 3) (zst L i (.int v)) st h Z) : Ev G M d pc L st h Z := by
  obtain ⟨q, hq⟩ := List.getElem?_of_mem (zlm_mem (G := G) (zlk_mem hv))
  exact Ev.same k (fun p l e R s m args below meth c H locs cells slots Q ls B hH hS hl kk => lv_iinc B.2.2.1 B.2.2.2.1 hd hl hq he hi (zst_map L i (.int v)) kk)
theorem r_dup {v : Value} (hd : decode M.2.1 pc = .ok (.dup, 1)) (hv : v.category = 1) (k : Ev G M d (pc + 1) L (v :: v :: st) h Z) : Ev G M d pc L (v :: st) h Z := Ev.same k (fun p l e R s m args below meth c H locs cells slots Q ls B hH hS hl kk => lv_dup B.2.2.1 B.2.2.2.1 hd (by rw [zcv_cat]; exact hv) (kk ls hl))
theorem r_dup2 {v w : Value} (hd : decode M.2.1 pc = .ok (.dup2, 1)) (hv : v.category = 1) (hw : w.category = 1) (k : Ev G M d (pc + 1) L (v :: w :: v :: w :: st) h Z) : Ev G M d pc L (v :: w :: st) h Z := Ev.same k (fun p l e R s m args below meth c H locs cells slots Q ls B hH hS hl kk => lv_dup2_11 B.2.2.1 B.2.2.2.1 hd (by rw [zcv_cat]; exact hv) (by rw [zcv_cat]; exact hw) (kk ls hl))
theorem r_dup_x1 {v w : Value} (hd : decode M.2.1 pc = .ok (.dup_x1, 1)) (hv : v.category = 1) (hw : w.category = 1) (k : Ev G M d (pc + 1) L (v :: w :: v :: st) h Z) : Ev G M d pc L (v :: w :: st) h Z := Ev.same k (fun p l e R s m args below meth c H locs cells slots Q ls B hH hS hl kk => lv_dup_x1 B.2.2.1 B.2.2.2.1 hd (by rw [zcv_cat]; exact hv) (by rw [zcv_cat]; exact hw) (kk ls hl))
theorem r_pop {v : Value} (hd : decode M.2.1 pc = .ok (.pop, 1)) (hv : v.category = 1) (k : Ev G M d (pc + 1) L (st) h Z) : Ev G M d pc L (v :: st) h Z := Ev.same k (fun p l e R s m args below meth c H locs cells slots Q ls B hH hS hl kk => lv_pop B.2.2.1 B.2.2.2.1 hd (by rw [zcv_cat]; exact hv) (kk ls hl))
theorem r_goto {off : Int} {tgt : Nat} (hd : decode M.2.1 pc = .ok (.goto off, 3)) (ht : (pc : Int) + off = (tgt : Int)) (k : Ev G M d tgt L st h Z) : Ev G M d pc L st h Z := Ev.same k (fun p l e R s m args below meth c H locs cells slots Q ls B hH hS hl kk => lv_goto B.2.2.1 B.2.2.2.1 hd ht (kk ls hl))
theorem r_if_eq {x : Int32} {off : Int} {tgt : Nat} (hd : decode M.2.1 pc = .ok (.ifCond .eq off, 3)) (ht : (pc : Int) + off = (tgt : Int)) (kt : x = 0 → Ev G M d tgt L st h Z) (kf : ¬ (x = 0) → Ev G M d (pc + 3) L st h Z) : Ev G M d pc L (.int x :: st) h Z := by
  by_cases hc : x = 0
  · exact Ev.same (kt hc) (fun p l e R s m args below meth c H locs cells slots Q ls B hH hS hl kk => lv_if_eq B.2.2.1 B.2.2.2.1 hd ht (fun _ => kk ls hl) (fun q => absurd hc q))
  · exact Ev.same (kf hc) (fun p l e R s m args below meth c H locs cells slots Q ls B hH hS hl kk => lv_if_eq B.2.2.1 B.2.2.2.1 hd ht (fun q => absurd q hc) (fun _ => kk ls hl))
theorem r_icmp_eq {x y : Int32} {off : Int} {tgt : Nat} (hd : decode M.2.1 pc = .ok (.if_icmp .eq off, 3)) (ht : (pc : Int) + off = (tgt : Int)) (kt : x = y → Ev G M d tgt L st h Z) (kf : ¬ (x = y) → Ev G M d (pc + 3) L st h Z) : Ev G M d pc L (.int y :: .int x :: st) h Z := by
  by_cases hc : x = y
  · exact Ev.same (kt hc) (fun p l e R s m args below meth c H locs cells slots Q ls B hH hS hl kk => lv_icmp_eq B.2.2.1 B.2.2.2.1 hd ht (fun _ => kk ls hl) (fun q => absurd hc q))
  · exact Ev.same (kf hc) (fun p l e R s m args below meth c H locs cells slots Q ls B hH hS hl kk => lv_icmp_eq B.2.2.1 B.2.2.2.1 hd ht (fun q => absurd q hc) (fun _ => kk ls hl))
theorem r_if_ne {x : Int32} {off : Int} {tgt : Nat} (hd : decode M.2.1 pc = .ok (.ifCond .ne off, 3)) (ht : (pc : Int) + off = (tgt : Int)) (kt : ¬ x = 0 → Ev G M d tgt L st h Z) (kf : x = 0 → Ev G M d (pc + 3) L st h Z) : Ev G M d pc L (.int x :: st) h Z := by
  by_cases hc : x = 0
  · exact Ev.same (kf hc) (fun p l e R s m args below meth c H locs cells slots Q ls B hH hS hl kk => lv_if_ne B.2.2.1 B.2.2.2.1 hd ht (fun q => absurd hc q) (fun _ => kk ls hl))
  · exact Ev.same (kt hc) (fun p l e R s m args below meth c H locs cells slots Q ls B hH hS hl kk => lv_if_ne B.2.2.1 B.2.2.2.1 hd ht (fun _ => kk ls hl) (fun q => absurd q hc))
theorem r_icmp_ne {x y : Int32} {off : Int} {tgt : Nat} (hd : decode M.2.1 pc = .ok (.if_icmp .ne off, 3)) (ht : (pc : Int) + off = (tgt : Int)) (kt : ¬ x = y → Ev G M d tgt L st h Z) (kf : x = y → Ev G M d (pc + 3) L st h Z) : Ev G M d pc L (.int y :: .int x :: st) h Z := by
  by_cases hc : x = y
  · exact Ev.same (kf hc) (fun p l e R s m args below meth c H locs cells slots Q ls B hH hS hl kk => lv_icmp_ne B.2.2.1 B.2.2.2.1 hd ht (fun q => absurd hc q) (fun _ => kk ls hl))
  · exact Ev.same (kt hc) (fun p l e R s m args below meth c H locs cells slots Q ls B hH hS hl kk => lv_icmp_ne B.2.2.1 B.2.2.2.1 hd ht (fun _ => kk ls hl) (fun q => absurd q hc))
theorem r_if_lt {x : Int32} {off : Int} {tgt : Nat} (hd : decode M.2.1 pc = .ok (.ifCond .lt off, 3)) (ht : (pc : Int) + off = (tgt : Int)) (kt : x < 0 → Ev G M d tgt L st h Z) (kf : ¬ (x < 0) → Ev G M d (pc + 3) L st h Z) : Ev G M d pc L (.int x :: st) h Z := by
  by_cases hc : x < 0
  · exact Ev.same (kt hc) (fun p l e R s m args below meth c H locs cells slots Q ls B hH hS hl kk => lv_if_lt B.2.2.1 B.2.2.2.1 hd ht (fun _ => kk ls hl) (fun q => absurd hc q))
  · exact Ev.same (kf hc) (fun p l e R s m args below meth c H locs cells slots Q ls B hH hS hl kk => lv_if_lt B.2.2.1 B.2.2.2.1 hd ht (fun q => absurd q hc) (fun _ => kk ls hl))
theorem r_icmp_lt {x y : Int32} {off : Int} {tgt : Nat} (hd : decode M.2.1 pc = .ok (.if_icmp .lt off, 3)) (ht : (pc : Int) + off = (tgt : Int)) (kt : x < y → Ev G M d tgt L st h Z) (kf : ¬ (x < y) → Ev G M d (pc + 3) L st h Z) : Ev G M d pc L (.int y :: .int x :: st) h Z := by
  by_cases hc : x < y
  · exact Ev.same (kt hc) (fun p l e R s m args below meth c H locs cells slots Q ls B hH hS hl kk => lv_icmp_lt B.2.2.1 B.2.2.2.1 hd ht (fun _ => kk ls hl) (fun q => absurd hc q))
  · exact Ev.same (kf hc) (fun p l e R s m args below meth c H locs cells slots Q ls B hH hS hl kk => lv_icmp_lt B.2.2.1 B.2.2.2.1 hd ht (fun q => absurd q hc) (fun _ => kk ls hl))
theorem r_if_ge {x : Int32} {off : Int} {tgt : Nat} (hd : decode M.2.1 pc = .ok (.ifCond .ge off, 3)) (ht : (pc : Int) + off = (tgt : Int)) (kt : 0 ≤ x → Ev G M d tgt L st h Z) (kf : ¬ (0 ≤ x) → Ev G M d (pc + 3) L st h Z) : Ev G M d pc L (.int x :: st) h Z := by
  by_cases hc : 0 ≤ x
  · exact Ev.same (kt hc) (fun p l e R s m args below meth c H locs cells slots Q ls B hH hS hl kk => lv_if_ge B.2.2.1 B.2.2.2.1 hd ht (fun _ => kk ls hl) (fun q => absurd hc q))
  · exact Ev.same (kf hc) (fun p l e R s m args below meth c H locs cells slots Q ls B hH hS hl kk => lv_if_ge B.2.2.1 B.2.2.2.1 hd ht (fun q => absurd q hc) (fun _ => kk ls hl))
theorem r_icmp_ge {x y : Int32} {off : Int} {tgt : Nat} (hd : decode M.2.1 pc = .ok (.if_icmp .ge off, 3)) (ht : (pc : Int) + off = (tgt : Int)) (kt : y ≤ x → Ev G M d tgt L st h Z) (kf : ¬ (y ≤ x) → Ev G M d (pc + 3) L st h Z) : Ev G M d pc L (.int y :: .int x :: st) h Z := by
  by_cases hc : y ≤ x
  · exact Ev.same (kt hc) (fun p l e R s m args below meth c H locs cells slots Q ls B hH hS hl kk => lv_icmp_ge B.2.2.1 B.2.2.2.1 hd ht (fun _ => kk ls hl) (fun q => absurd hc q))
  · exact Ev.same (kf hc) (fun p l e R s m args below meth c H locs cells slots Q ls B hH hS hl kk => lv_icmp_ge B.2.2.1 B.2.2.2.1 hd ht (fun q => absurd q hc) (fun _ => kk ls hl))
theorem r_if_gt {x : Int32} {off : Int} {tgt : Nat} (hd : decode M.2.1 pc = .ok (.ifCond .gt off, 3)) (ht : (pc : Int) + off = (tgt : Int)) (kt : 0 < x → Ev G M d tgt L st h Z) (kf : ¬ (0 < x) → Ev G M d (pc + 3) L st h Z) : Ev G M d pc L (.int x :: st) h Z := by
  by_cases hc : 0 < x
  · exact Ev.same (kt hc) (fun p l e R s m args below meth c H locs cells slots Q ls B hH hS hl kk => lv_if_gt B.2.2.1 B.2.2.2.1 hd ht (fun _ => kk ls hl) (fun q => absurd hc q))
  · exact Ev.same (kf hc) (fun p l e R s m args below meth c H locs cells slots Q ls B hH hS hl kk => lv_if_gt B.2.2.1 B.2.2.2.1 hd ht (fun q => absurd q hc) (fun _ => kk ls hl))
theorem r_icmp_gt {x y : Int32} {off : Int} {tgt : Nat} (hd : decode M.2.1 pc = .ok (.if_icmp .gt off, 3)) (ht : (pc : Int) + off = (tgt : Int)) (kt : y < x → Ev G M d tgt L st h Z) (kf : ¬ (y < x) → Ev G M d (pc + 3) L st h Z) : Ev G M d pc L (.int y :: .int x :: st) h Z := by
  by_cases hc : y < x
  · exact Ev.same (kt hc) (fun p l e R s m args below meth c H locs cells slots Q ls B hH hS hl kk => lv_icmp_gt B.2.2.1 B.2.2.2.1 hd ht (fun _ => kk ls hl) (fun q => absurd hc q))
  · exact Ev.same (kf hc) (fun p l e R s m args below meth c H locs cells slots Q ls B hH hS hl kk => lv_icmp_gt B.2.2.1 B.2.2.2.1 hd ht (fun q => absurd q hc) (fun _ => kk ls hl))
theorem r_if_le {x : Int32} {off : Int} {tgt : Nat} (hd : decode M.2.1 pc = .ok (.ifCond .le off, 3)) (ht : (pc : Int) + off = (tgt : Int)) (kt : x ≤ 0 → Ev G M d tgt L st h Z) (kf : ¬ (x ≤ 0) → Ev G M d (pc + 3) L st h Z) : Ev G M d pc L (.int x :: st) h Z := by
  by_cases hc : x ≤ 0
  · exact Ev.same (kt hc) (fun p l e R s m args below meth c H locs cells slots Q ls B hH hS hl kk => lv_if_le B.2.2.1 B.2.2.2.1 hd ht (fun _ => kk ls hl) (fun q => absurd hc q))
  · exact Ev.same (kf hc) (fun p l e R s m args below meth c H locs cells slots Q ls B hH hS hl kk => lv_if_le B.2.2.1 B.2.2.2.1 hd ht (fun q => absurd q hc) (fun _ => kk ls hl))
theorem r_icmp_le {x y : Int32} {off : Int} {tgt : Nat} (hd : decode M.2.1 pc = .ok (.if_icmp .le off, 3)) (ht : (pc : Int) + off = (tgt : Int)) (kt : x ≤ y → Ev G M d tgt L st h Z) (kf : ¬ (x ≤ y) → Ev G M d (pc + 3) L st h Z) : Ev G M d pc L (.int y :: .int x :: st) h Z := by
  by_cases hc : x ≤ y
  · exact Ev.same (kt hc) (fun p l e R s m args below meth c H locs cells slots Q ls B hH hS hl kk => lv_icmp_le B.2.2.1 B.2.2.2.1 hd ht (fun _ => kk ls hl) (fun q => absurd hc q))
  · exact Ev.same (kf hc) (fun p l e R s m args below meth c H locs cells slots Q ls B hH hS hl kk => lv_icmp_le B.2.2.1 B.2.2.2.1 hd ht (fun q => absurd q hc) (fun _ => kk ls hl))
theorem r_ifnull {x : Nat} {off : Int} (hd : decode M.2.1 pc = .ok (.ifnull off, 3)) (k : Ev G M d (pc + 3) L st h Z) : Ev G M d pc L (.ref x :: st) h Z := Ev.same k (fun p l e R s m args below meth c H locs cells slots Q ls B hH hS hl kk => lv_ifnull B.2.2.1 B.2.2.2.1 hd (kk ls hl))
theorem r_ifnonnull {x : Nat} {off : Int} {tgt : Nat} (hd : decode M.2.1 pc = .ok (.ifnonnull off, 3)) (ht : (pc : Int) + off = (tgt : Int)) (k : Ev G M d tgt L st h Z) : Ev G M d pc L (.ref x :: st) h Z := Ev.same k (fun p l e R s m args below meth c H locs cells slots Q ls B hH hS hl kk => lv_ifnonnull B.2.2.1 B.2.2.2.1 hd ht (kk ls hl))
theorem r_ifnullN {off : Int} {tgt : Nat} (hd : decode M.2.1 pc = .ok (.ifnull off, 3)) (ht : (pc : Int) + off = (tgt : Int)) (k : Ev G M d tgt L st h Z) : Ev G M d pc L (.null :: st) h Z := Ev.same k (fun p l e R s m args below meth c H locs cells slots Q ls B hH hS hl kk => lv_ifnullN B.2.2.1 B.2.2.2.1 hd ht (kk ls hl))
theorem r_ifnonnullN {off : Int} (hd : decode M.2.1 pc = .ok (.ifnonnull off, 3)) (k : Ev G M d (pc + 3) L st h Z) : Ev G M d pc L (.null :: st) h Z := Ev.same k (fun p l e R s m args below meth c H locs cells slots Q ls B hH hS hl kk => lv_ifnonnullN B.2.2.1 B.2.2.2.1 hd (kk ls hl))
theorem r_lookup {dflt : Int} {ps : Array (Int × Int)} {len : Nat} {x : Int32} {off : Int} {tgt : Nat} (hd : decode M.2.1 pc = .ok (.lookupswitch dflt ps, len)) (hp : (ps.toList.zip (ps.toList.drop 1)).all (fun (a, next) => a.1 < next.1) = true) (ho : Op.lookupswitch.offset ps.toList dflt x.toInt = off) (ht : (pc : Int) + off = (tgt : Int)) (k : Ev G M d tgt L st h Z) : Ev G M d pc L (.int x :: st) h Z := Ev.same k (fun p l e R s m args below meth c H locs cells slots Q ls B hH hS hl kk => lv_lookup B.2.2.1 B.2.2.2.1 hd hp ho ht (kk ls hl))
theorem r_tableOut {dflt lo hi : Int} {offs : Array Int} {len : Nat} {x : Int32} {tgt : Nat} (hd : decode M.2.1 pc = .ok (.tableswitch dflt lo hi offs, len)) (hq : x.toInt < lo ∨ hi < x.toInt) (ht : (pc : Int) + dflt = (tgt : Int)) (k : Ev G M d tgt L st h Z) : Ev G M d pc L (.int x :: st) h Z := Ev.same k (fun p l e R s m args below meth c H locs cells slots Q ls B hH hS hl kk => lv_tableOut B.2.2.1 B.2.2.2.1 hd hq ht (kk ls hl))
theorem r_tableIn {dflt lo hi : Int} {offs : Array Int} {len : Nat} {x : Int32} {off : Int} {tgt : Nat} (hd : decode M.2.1 pc = .ok (.tableswitch dflt lo hi offs, len)) (h1 : ¬ x.toInt < lo) (h2 : ¬ hi < x.toInt) (ho : offs[(x.toInt - lo).toNat]? = some off) (ht : (pc : Int) + off = (tgt : Int)) (k : Ev G M d tgt L st h Z) : Ev G M d pc L (.int x :: st) h Z := Ev.same k (fun p l e R s m args below meth c H locs cells slots Q ls B hH hS hl kk => lv_tableIn B.2.2.1 B.2.2.2.1 hd h1 h2 ho ht (kk ls hl))
end EV
