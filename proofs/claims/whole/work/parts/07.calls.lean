/-! CONTRACTS AND CALLS. A method's name, bytes, locals, result -/
abbrev Yx : Type := MethodName × ByteArray × Nat × Option FieldType
def zPc (G : Gd) (as : List Value) (h : Hp) : Array Value → State → Prop := fun v U => v = (as.map (zcv G)).toArray ∧ zHR G h U.heap ∧ zEn G U
def zQc (G : Gd) (r : Option Value) (h1 : Hp) : Array Value → State → Outcome → State → Prop := fun _ st oc t => oc = .returned (r.map (zcv G)) ∧ zHR G h1 t.heap ∧ va_F (zA G) st t
/-- the method Y, called with as in the heap h, returns r, the heap being h1 then: with j frames of room -/
def Cal (G : Gd) (j : Nat) (Y : Yx) (as : List Value) (h : Hp) (r : Option Value) (h1 : Hp) : Prop :=
  zn h ≤ zn h1 ∧ zs h ≤ zs h1 ∧ (zOK G → ∀ (l : Launch), l.stackTraces = false → ∀ (dd : Nat), j ≤ dd → Met l Y.1 [Cond.code Y.1 Y.2.1 Y.2.2.1 Y.2.2.2] ({ frames := dd, cells := zn h1 - zn h, slots := zs h1 - zs h, locals := 48 * dd } : Room) (zPc G as h) (zQc G r h1) (zn h1 - zn h) (zs h1 - zs h) (zA G))
/-- what the tables say of a method -/
def Yk (Y : Yx) (n : Nat) : Prop := Cond.code Y.1 Y.2.1 Y.2.2.1 Y.2.2.2 ∈ lw_tbl ∧ Cond.initialized Y.1.cls ∈ lw_tbl ∧ (Y.1.cls ≠ "java/lang/invoke/MethodHandle" ∧ Y.1.cls ≠ "java/lang/invoke/VarHandle") ∧ (parseMethodDescriptor Y.1.desc).map (fun q => q.parameters.length) = some n ∧ Y.2.2.1 ≤ 29 ∧ True
theorem zPc_blind {G : Gd} {as : List Value} {h : Hp} : FrameBlind (zPc G as h) := fun a U g mk q => ⟨q.1, q.2.1, q.2.2⟩
section CA
variable {G : Gd} {M : Mx} {d pc : Nat} {L : List (Nat × Value)} {st : List Value} {h h1 : Hp} {Z : Cf → Prop}
theorem zCallB {R : Room} {s : State} {args : Array Value} {x n j : Nat} {Y : Yx} (hY : Yk Y n) (hO : zOK G) (hE : zEn G s) (hlk : Cond.methodLink M.1 x Y.1 ∈ lw_tbl) (hj : j + 1 ≤ d) (hR : d ≤ R.frames) (hRl : 48 * d ≤ R.locals) (mc ms : Nat) :
    CallB R s args M.1 x Y.1 Y.2.1 Y.2.2.1 Y.2.2.2 [Cond.code Y.1 Y.2.1 Y.2.2.1 Y.2.2.2] ({ frames := j, cells := mc, slots := ms, locals := 48 * j } : Room) mc ms n := by
  obtain ⟨y1, y2, y3, y4, y5, y6⟩ := hY
  refine ⟨rfl, rfl, Nat.le_trans hj hR, ?_, fun w hw a' U hU => ?_, List.mem_cons_self, hE.word hO y1 rfl, hE.word hO y2 rfl, y3, fun sig hs => ?_, hE.word hO hlk rfl⟩
  · show 8 + (Y.2.2.1 + 11) + 48 * j ≤ R.locals
    omega
  · rw [List.mem_singleton.mp hw]
    exact word_at hU (Or.inl rfl) (hE.word (args := args) hO y1 rfl)
  · rw [hs] at y4
    exact (Option.some.inj y4).symm
/-- behind a call -/
theorem Ev.call {pc1 j : Nat} {st0 : List Value} {r : Option Value} (hn1 : zn h ≤ zn h1) (hn2 : zs h ≤ zs h1) (k : Ev G M d (pc + 3) L (r.toList ++ st) h1 Z)
    (run : ∀ (p : Program) (l : Launch) (e : Env) (R : Room) (s : State) (m : MethodId) (args : Array Value) (below : List Frame) (meth : Method) (c : Code) (H : Heap) (locs : List Loc) (cells slots : Nat) (ls : Array Slot),
      zBd G M p l s m meth c → d ≤ R.frames → 48 * d ≤ R.locals → cells + (zn h1 - zn h) ≤ R.cells → slots + (zs h1 - zs h) ≤ R.slots → zHR G h H → va_S (zA G) s.heap H locs → lv_has ls M.2.2.1 (zlm G L) →
      ∃ a9, va_Run p l e R s m args below meth c H locs cells slots (zn h1 - zn h) (zs h1 - zs h) (F0 m pc ls (st0.map (zcv G))) (st.map (zcv G)) (zQc G r h1 a9) (zA G)) : Ev G M d pc L st0 h Z := by
  obtain ⟨F, ⟨k1, k2, k3⟩, hz⟩ := k
  refine ⟨F, ⟨by omega, by omega, ?_⟩, hz⟩
  intro p l e R s m args below meth c H locs cells slots Q ls B hd hlo hc hs hH hS hl kk
  obtain ⟨a9, hr⟩ := run p l e R s m args below meth c H locs cells slots ls B hd hlo (by omega) (by omega) hH hS hl
  intro T hT X
  obtain ⟨v, st₀, t, T', L9, h0, X', hL, e1, e2, ⟨hv, hH1, hz1, hk1⟩, st9⟩ := hr T hT X
  cases hv
  rw [h0] at hz1 hk1
  have q1 : cells + (zn h1 - zn h) + (zn F.2.2.2 - zn h1) = cells + (zn F.2.2.2 - zn h) := by omega
  have q2 : slots + (zs h1 - zs h) + (zs F.2.2.2 - zs h1) = slots + (zs F.2.2.2 - zs h) := by omega
  have k4 := k3 p l e R s m args below meth c T'.heap (locs ++ L9) (cells + (zn h1 - zn h)) (slots + (zs h1 - zs h)) Q ls B hd hlo (by omega) (by omega) (by rw [e1]; exact hH1)
    ⟨Nat.le_trans hS.1 (by rw [e1]; exact hz1), fun q g1 g2 => by rw [e1, hk1 q (Nat.lt_of_lt_of_le g1 hS.1) g2]; exact hS.2.1 q g1 g2, fun q hq => by
      rcases List.mem_append.mp hq with g | g
      · exact hS.2.2 q g
      · exact hL q g⟩ hl (by rw [q1, q2]; exact kk)
  obtain ⟨t2, a1, b1⟩ := k4 T' rfl X'
  refine ⟨t2, st9 t2 ?_, b1⟩
  have e9 : (r.toList ++ st).map (zcv G) = (r.map (zcv G)).toList ++ st.map (zcv G) := by
    rw [List.map_append]
    cases r <;> rfl
  rw [e9] at a1
  exact a1
theorem zrev (as st : List Value) (b : Value) : (as.reverse ++ b :: st).map (zcv G) = (as.map (zcv G)).reverse ++ zcv G b :: st.map (zcv G) := by
  rw [List.map_append, List.map_reverse, List.map_cons]
theorem zroom {m : MethodId} {ls : Array Slot} {st0 : List Value} (hst : (st.map fun v => v.category).sum ≤ 8) : 2 * (F0 m pc ls st0).monitorRoom + ((st.map (zcv G)).map fun v => v.category).sum ≤ 8 := by
  have e : ((st.map (zcv G)).map fun v => v.category) = st.map fun v => v.category := by
    rw [List.map_map]
    exact List.map_congr_left (fun v _ => zcv_cat G v)
  rw [e]
  exact lv_room hst
/-- an instance method of an object of class i -/
theorem r_callV {x n j i b : Nat} {Y : Yx} {as st0 : List Value} {r : Option Value} (hd : decode M.2.1 pc = .ok (.invokevirtual x, 3)) (hY : Yk Y n) (hI : Cond.instanceMethod Y.1 ∈ lw_tbl) (hS : Cond.selects (kR i) Y.1 Y.1 ∈ lw_tbl) (hlk : Cond.methodLink M.1 x Y.1 ∈ lw_tbl) (hs : st0 = as.reverse ++ .ref b :: st) (ho : isO h b i) (hi : i < 13) (hn : as.length = n) (hst : (st.map fun v => v.category).sum ≤ 8) (hj : j + 1 ≤ d) (hC : Cal G j Y (.ref b :: as) h r h1)
    (k : Ev G M d (pc + 3) L (r.toList ++ st) h1 Z) : Ev G M d pc L st0 h Z := by
  subst hs
  refine Ev.call (pc1 := pc) (j := j) hC.1 hC.2.1 k (fun p l e R s m args below meth c H locs cells slots ls B hR hRl hc1 hc2 hH hS9 hl => ⟨#[], ?_⟩)
  obtain ⟨cell, q1, q2, q3, -⟩ := hH.obj ho hi
  have run := va_runV (args := args) (Ts := []) (own := M.1) (C := kR i) (b := zad G b) (As := as.map (zcv G)) (rest := st.map (zcv G)) (g := F0 m pc ls ((as.reverse ++ .ref b :: st).map (zcv G))) (locs := locs) (cells := cells) (slots := slots) (e := e) (below := below) (meth := meth) ⟨B.2.2.1, B.2.2.2.1, B.2.2.2.2.1, B.2.2.2.2.2.1, fun w hw => by cases hw⟩ (hC.2.2 B.1 l B.2.2.2.2.2.2.2.2 j (Nat.le_refl j))
    ⟨zCallB (n := n) hY B.1 B.2.1 hlk hj hR hRl _ _, B.2.1.word B.1 hI rfl, B.2.1.word B.1 hS rfl⟩
    ⟨zPc_blind, ⟨cell, q1, by rw [q3]; rfl, by rw [q2]; exact (B.2.1.known B.1 hi).2.1⟩, fun U hU hW => ⟨rfl, by rw [hU]; exact hH, B.2.1.on hS9 hU hW⟩⟩
    rfl (by rw [List.length_map]; exact hn) hl.1 (zrev as st _) (zroom hst) hd ⟨hc1, hc2⟩
  exact run
/-- a static method of the same class -/
theorem r_callS {x n j : Nat} {Y : Yx} {as st0 : List Value} {r : Option Value} (hd : decode M.2.1 pc = .ok (.invokestatic x, 3)) (hY : Yk Y n) (hI : Cond.static Y.1 ∈ lw_tbl) (hlk : Cond.methodLink M.1 x Y.1 ∈ lw_tbl) (hs : st0 = as.reverse ++ st) (hn : as.length = n) (hst : (st.map fun v => v.category).sum ≤ 8) (hj : j + 1 ≤ d) (hC : Cal G j Y as h r h1)
    (k : Ev G M d (pc + 3) L (r.toList ++ st) h1 Z) : Ev G M d pc L st0 h Z := by
  subst hs
  refine Ev.call (pc1 := pc) (j := j) hC.1 hC.2.1 k (fun p l e R s m args below meth c H locs cells slots ls B hR hRl hc1 hc2 hH hS9 hl => ⟨#[], ?_⟩)
  have e9 : (as.reverse ++ st).map (zcv G) = (as.map (zcv G)).reverse ++ st.map (zcv G) := by rw [List.map_append, List.map_reverse]
  exact va_runS (args := args) (Ts := []) (own := M.1) (As := as.map (zcv G)) (rest := st.map (zcv G)) (g := F0 m pc ls ((as.reverse ++ st).map (zcv G))) (locs := locs) (cells := cells) (slots := slots) (e := e) (below := below) (meth := meth) ⟨B.2.2.1, B.2.2.2.1, B.2.2.2.2.1, B.2.2.2.2.2.1, fun w hw => by cases hw⟩ (hC.2.2 B.1 l B.2.2.2.2.2.2.2.2 j (Nat.le_refl j))
    ⟨zCallB (n := n) hY B.1 B.2.1 hlk hj hR hRl _ _, B.2.1.word B.1 hI rfl⟩
    ⟨zPc_blind, fun U hU hW => ⟨rfl, by rw [hU]; exact hH, B.2.1.on hS9 hU hW⟩⟩
    rfl (by rw [List.length_map]; exact hn) hl.1 e9 (zroom hst) hd ⟨hc1, hc2⟩
/-- a constructor -/
theorem r_callI {x n j b : Nat} {Y : Yx} {as st0 : List Value} (hd : decode M.2.1 pc = .ok (.invokespecial x, 3)) (hY : Yk Y n) (hret : Y.2.2.2 = none) (hI : Cond.instanceMethod Y.1 ∈ lw_tbl) (hnm : Y.1.name = "<init>") (hlk : Cond.methodLink M.1 x Y.1 ∈ lw_tbl) (hs : st0 = as.reverse ++ .ref b :: st) (hn : as.length = n) (hst : (st.map fun v => v.category).sum ≤ 8) (hj : j + 1 ≤ d) (hC : Cal G j Y (.ref b :: as) h none h1)
    (k : Ev G M d (pc + 3) L st h1 Z) : Ev G M d pc L st0 h Z := by
  subst hs
  refine Ev.call (r := none) (pc1 := pc) (j := j) hC.1 hC.2.1 k (fun p l e R s m args below meth c H locs cells slots ls B hR hRl hc1 hc2 hH hS9 hl => ⟨#[], ?_⟩)
  have cb := zCallB (R := R) (args := args) (n := n) hY B.1 B.2.1 hlk hj hR hRl (zn h1 - zn h) (zs h1 - zs h)
  have hM9 := hC.2.2 B.1 l B.2.2.2.2.2.2.2.2 j (Nat.le_refl j)
  rw [hret] at cb hM9
  exact va_runI (args := args) (Ts := []) (own := M.1) (b := zad G b) (As := as.map (zcv G)) (rest := st.map (zcv G)) (g := F0 m pc ls ((as.reverse ++ .ref b :: st).map (zcv G))) (locs := locs) (cells := cells) (slots := slots) (e := e) (below := below) (meth := meth) ⟨B.2.2.1, B.2.2.2.1, B.2.2.2.2.1, B.2.2.2.2.2.1, fun w hw => by cases hw⟩ hM9
    ⟨cb, hnm, B.2.1.word B.1 hI rfl⟩
    ⟨zPc_blind, fun U hU hW => ⟨rfl, by rw [hU]; exact hH, B.2.1.on hS9 hU hW⟩⟩
    rfl (by rw [List.length_map]; exact hn) hl.1 (zrev as st _) (zroom hst) hd ⟨hc1, hc2⟩
/-- Object's own constructor, from a constructor -/
theorem r_objInit {x b : Nat} (hd : decode M.2.1 pc = .ok (.invokespecial x, 3)) (hlk : Cond.methodLink M.1 x objectInit ∈ lw_tbl) (h1 : 1 ≤ d) (hst : (st.map fun v => v.category).sum ≤ 30) (k : Ev G M d (pc + 3) L st h Z) : Ev G M d pc L (.ref b :: st) h Z := by
  obtain ⟨F, ⟨k1, k2, k3⟩, hz⟩ := k
  refine ⟨F, ⟨k1, k2, ?_⟩, hz⟩
  intro p l e R s m args below meth c H locs cells slots Q ls B hd9 hlo hc hs hH hS hl kk
  have e9 : ((st.map (zcv G)).map fun v => v.category) = st.map fun v => v.category := by
    rw [List.map_map]
    exact List.map_congr_left (fun v _ => zcv_cat G v)
  refine W.objInit B.2.2.1 B.2.2.2.1 B.2.2.2.2.2.1 (B.2.1.word B.1 hlk rfl) (B.2.1.word B.1 (by decide +kernel) rfl) (B.2.1.word B.1 (by decide +kernel) rfl) rfl (by rw [B.2.2.2.2.1]; exact hl.1) rfl hd (by omega) ?_ (k3 p l e R s m args below meth c H locs cells slots Q ls B hd9 hlo hc hs hH hS hl kk)
  show 2 * 0 + _ + 12 ≤ R.locals
  rw [e9]
  omega
/-- where a method ends -/
def Ret (Y : Yx) (r : Option Value) (h1 : Hp) (F : Cf) : Prop := F.2.2.2 = h1 ∧
  ((decode Y.2.1 F.1 = .ok (.return_, 1) ∧ F.2.2.1 = [] ∧ r = none ∧ Y.2.2.2 = none) ∨
   (decode Y.2.1 F.1 = .ok (.ireturn, 1) ∧ ∃ (x : Int32) (ty : FieldType), F.2.2.1 = [.int x] ∧ r = some (.int x) ∧ Y.2.2.2 = some ty ∧ narrow ty (.int x) = .int x) ∨
   (decode Y.2.1 F.1 = .ok (.lreturn, 1) ∧ ∃ x : Int64, F.2.2.1 = [.long x] ∧ r = some (.long x) ∧ Y.2.2.2 = some .long) ∨
   (decode Y.2.1 F.1 = .ok (.areturn, 1) ∧ ∃ (v : Value) (ty : FieldType), F.2.2.1 = [v] ∧ r = some v ∧ (v = .null ∨ ∃ q, v = .ref q) ∧ Y.2.2.2 = some ty ∧ ((∃ n, ty = .object n) ∨ ∃ t, ty = .array t)))
theorem zlv_args (as : List Value) : ∀ i, lv_args i (as.map (zcv G)) = zlm G (lv_args i as) := by
  induction as with
  | nil => intro i; rfl
  | cons v r ih =>
    intro i
    show (i, zcv G v) :: lv_args _ (r.map (zcv G)) = (i, zcv G v) :: zlm G (lv_args _ r)
    rw [zcv_cat, ih]
theorem zlg_len (as : List Value) : (lg_sl (as.map (zcv G))).length = (lg_sl as).length := by
  induction as with
  | nil => rfl
  | cons v r ih =>
    unfold lg_sl at ih ⊢
    rw [List.map_cons, List.flatMap_cons, List.flatMap_cons, List.length_append, List.length_append, ih, zcv_cat]
    split <;> rfl
/-- a contract out of a walk of the body -/
theorem Cal.of {Y : Yx} {n j : Nat} {as : List Value} {r : Option Value} {I : Bool} (hp : plainName Y.1.cls = true ∨ plainFor Y.1 = true) (hI : I = true → Y.1.name = "<init>") (hlen : (lg_sl as).length ≤ Y.2.2.1) (k : Ev G (Y.1.cls, Y.2.1, Y.2.2.1, I) j 0 (lv_args 0 as) [] h (Ret Y r h1)) : Cal G j Y as h r h1 := by
  obtain ⟨F, ⟨k1, k2, k3⟩, hF, hz⟩ := k
  subst hF
  refine ⟨k1, k2, fun hO l hst dd hdd => ?_⟩
  have bodyOK : ∀ p e s m args below meth c s₁, BodyLoose p l Y.1 (headSpec [Cond.code Y.1 Y.2.1 Y.2.2.1 Y.2.2.2] ({ frames := dd, cells := zn F.2.2.2 - zn h, slots := zs F.2.2.2 - zs h, locals := 48 * dd } : Room)) Y.2.1 Y.2.2.1 Y.2.2.2 e s m args below meth c s₁ → c.maxLocals = Y.2.2.1 → zPc G as h args s →
      W p l e (headSpec [Cond.code Y.1 Y.2.1 Y.2.2.1 Y.2.2.2] ({ frames := dd, cells := zn F.2.2.2 - zn h, slots := zs F.2.2.2 - zs h, locals := 48 * dd } : Room)).room s m args below meth c s.heap [] 0 0 (MQ below (zQc G r F.2.2.2) args s (zn F.2.2.2 - zn h) (zs F.2.2.2 - zs h) (zA G)) (entryFrame m args Y.2.2.1) := by
    intro p e s m args below meth c s₁ B hml hv
    obtain ⟨rfl, hH, hE⟩ := hv
    rw [lg_entry_eq]
    have hl := lv_entry (as.map (zcv G)) (n := Y.2.2.1) (by rw [zlg_len]; exact hlen)
    generalize (lg_sl (as.map (zcv G)) ++ List.replicate (Y.2.2.1 - (lg_sl (as.map (zcv G))).length) Slot.unset).toArray = ls at hl ⊢
    rw [zlv_args] at hl
    have hown : s.vm.findClass Y.1.cls = some m.cls := findClass_of_methodNamed B.named
    have hin : I = true → meth.name = "<init>" := fun q => ((name_of_methodNamed B.named B.method).1).trans (hI q)
    refine k3 p l e _ s m _ below meth c s.heap [] 0 0 _ ls ⟨hO, hE, B.exec, B.bytes, hml, hown, hin, B.notSynchronized, hst⟩ hdd (Nat.mul_le_mul_left 48 hdd) (by rw [Nat.zero_add]; exact Nat.le_refl _) (by rw [Nat.zero_add]; exact Nat.le_refl _) hH va_S.rf hl ?_
    intro H1 locs1 ls1 hH1 hS1 hl1
    rw [Nat.zero_add, Nat.zero_add]
    have hlocks := B.notSynchronized
    have post : ∀ t : State, t.heap = H1 → zHR G F.2.2.2 t.heap ∧ va_F (zA G) s t := fun t ht => ⟨by rw [ht]; exact hH1, hS1.F ht⟩
    rcases hz with ⟨q1, q2, q3, q4⟩ | ⟨q1, x, ty, q2, q3, q4, q5⟩ | ⟨q1, x, q2, q3, q4⟩ | ⟨q1, v, ty, q2, q3, q4, q5, q6⟩
    · rw [q2, q3]
      exact W.vret B.exec B.bytes (B.returns.trans q4) (fun t ht _ => ⟨rfl, post t ht⟩) hS1.2.2 q1
    · rw [q2, q3]
      exact W.zret B.exec B.bytes (B.returns.trans q4) q5 (fun t ht _ => ⟨rfl, post t ht⟩) hS1.2.2 q1
    · rw [q2, q3]
      exact W.lret B.exec B.bytes (B.returns.trans q4) (fun t ht _ => ⟨rfl, post t ht⟩) hS1.2.2 q1
    · rw [q2, q3]
      refine W.aret (v := zcv G v) B.exec B.bytes (B.returns.trans q5) q6 ?_ (fun t ht _ => ⟨rfl, post t ht⟩) hS1.2.2 q1
      rcases q4 with rfl | ⟨q, rfl⟩
      · exact Or.inl rfl
      · exact Or.inr ⟨_, rfl⟩
  rcases hp with hp | hp
  · exact Met.ofW (cc := Y.2.1) (maxL := Y.2.2.1) (ret := Y.2.2.2) hp rfl bodyOK
  · exact va_MetF (cc := Y.2.1) (maxL := Y.2.2.1) (ret := Y.2.2.2) hp rfl bodyOK
end CA
