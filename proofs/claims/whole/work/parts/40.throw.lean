/-! WHERE A METHOD THROWS: the exception's class X, whose constructor of one text calls Y's by the entry ix -/
def zSuf (own : String) (ic : Nat) (X : String) : List Cond := [.methodLink own ic (Bundle.initS X), .instantiable X 6, .castable X X, .selects X Bundle.tFill0 Bundle.tFill0, .selects X Bundle.tFill Bundle.tFill,
   .lays X Bundle.tN "cause" "Ljava/lang/Throwable;", .lays X Bundle.tN "stackTrace" Bundle.steD, .lays X Bundle.tN "suppressedExceptions" Bundle.listD, .lays X Bundle.tN "detailMessage" "Ljava/lang/String;",
   .isRef (.static Bundle.tN "UNASSIGNED_STACK" Bundle.steD), .isRef (.static Bundle.tN "SUPPRESSED_SENTINEL" Bundle.listD),
   .fieldLink Bundle.tN 198 Bundle.tN "backtrace" "Ljava/lang/Object;", .lays Bundle.tN Bundle.tN "backtrace" "Ljava/lang/Object;", .lays X Bundle.tN "backtrace" "Ljava/lang/Object;"]
def zAtX (own : String) (ic : Nat) (X Y : String) (r : List String) (ix : Nat) (rx : ByteArray) : List Cond := (Bundle.throwableAtoms ++ Bundle.throwableSAtoms) ++ ((Bundle.passSAtoms X Y ix rx ++ Bundle.chainSAtoms Y r) ++ zSuf own ic X)
section TH
variable {p : Program} {l : Launch} {e : Env} {R : Room} {s : State} {m₀ : MethodId} {args : Array Value} {below : List Frame} {meth : Method} {c : Code} {W : State} {locs : List Loc} {cells slots : Nat}
set_option maxHeartbeats 1000000 in
theorem zctorX (X : Stand p l e R s m₀ args below meth c W locs cells slots) (hexec : p.tables.exec = Jvm.exec) (htr : e.platform.stackTraces = false) {own cls Y9 : String} {r : List String} {ic ix : Nat} {rx : ByteArray}
    (x0 : decode rx 0 = .ok (.aload_n 0, 1)) (x1 : decode rx 1 = .ok (.aload_n 1, 1)) (x2 : decode rx 2 = .ok (.invokespecial ix, 3)) (x5 : decode rx 5 = .ok (.return_, 1))
    (hown : s.vm.findClass own = some m₀.cls) (hcls : Bundle.fit cls = true) (hY9 : Bundle.fit Y9 = true) (hnames : ∀ n ∈ r, Bundle.fit n = true)
    (h : ∀ a ∈ zAtX own ic cls Y9 r ix rx, a.before args s = true)
    (hlocs : ∀ x ∈ locs, ∀ cell, s.heap[x.base]? = some cell → cell.vm.isStatics = false)
    {a : Addr} {cX : ClassId} {kX : Class} (hfoundX : s.vm.findClass cls = some cX) (hkX : s.vm.classes[cX]? = some kX) (hcell : W.heap[a]? = some (freshCell cX kX)) (hnew : s.heap.size ≤ a)
    {msg : Value} (hmsg : msg.isRef = true)
    {g : JFrame} (hg : g.method = m₀) (hsize : g.locals.size = c.maxLocals) (hlocked : g.locked = none) (hentered : g.entered = []) {rest : List Value} (hstack : g.stack = msg :: .ref a :: .ref a :: rest)
    (hd6 : decode c.code g.pc = .ok (.invokespecial ic, 3)) (hd9 : decode c.code (g.pc + 3) = .ok (.athrow, 1)) (hout : ∀ x ∈ c.exceptionTable.toList, covers x (g.pc + 3) = false)
    (hRframes : r.length + 4 < R.frames) (hRlocals : 2 * g.monitorRoom + ((Value.ref a :: rest).map fun v => v.category).sum + (13 * (r.length + 2) + 42) ≤ R.locals) (hlocks : meth.locks = false) :
    ∃ U : State, Steps p.tables e below (W.setTop g) U ∧ U.status = .running ∧ Ended U below (.threw a) ∧ s.WarmedH U.vm ∧ s.sameButNew ({ U with vm := s.vm } : State) locs cells slots ∧
      ∃ ce, U.heap[a]? = some ce ∧ s.vm.findClass cls = some ce.cls ∧ ce.vm = .none := by
  have howns : e.platform.frameOwnsMonitors = true := by rw [X.admits.platform]
  have hfin : e.platform.finalization = false := by rw [X.admits.platform]
  have hpl : e.platform.magicAccessors = ({} : Platform).magicAccessors := by rw [X.admits.platform]
  have hA : ∀ x ∈ Bundle.throwableAtoms ++ Bundle.throwableSAtoms, x.before args s = true := fun x hx => h x (List.mem_append_left _ hx)
  have hP : ∀ x ∈ Bundle.passSAtoms cls Y9 ix rx, x.before args s = true := fun x hx => h x (List.mem_append_right _ (List.mem_append_left _ (List.mem_append_left _ hx)))
  have hC : ∀ x ∈ Bundle.chainSAtoms Y9 r, x.before args s = true := fun x hx => h x (List.mem_append_right _ (List.mem_append_left _ (List.mem_append_right _ hx)))
  have a' : ∀ x, x ∈ zSuf own ic cls → x.holds args s none s [] = true := fun x hx => h x (List.mem_append_right _ (List.mem_append_right _ hx))
  obtain ⟨T, Z0, L, -, Y⟩ := ThrowableC.of_atoms (args := args) howns hfin hpl (fun x hx => hA x (List.mem_append_left _ hx))
  obtain ⟨Z, M, LZ, LM, hnZ⟩ := Init0T.ofS_atoms (args := args) hpl L Y (fun x hx => hA x (List.mem_append_right _ hx))
  obtain ⟨P1, L1, hP1m, hs1⟩ := PassC.ofS_atoms (args := args) (s := s) hpl (X := cls) (Y := Y9) (Bundle.fit_spec hcls).1 (Bundle.fit_spec hY9).2 x0 x1 x2 x5 hP
  obtain ⟨P2, Ps, hlen, L2, hL, hP2m, hlink2, hlink⟩ := Bundle.chainS (args := args) hpl hnZ r Y9 hY9 hnames hC
  have hlink1 : P1.sup = P2.m := Option.some.inj (hs1.symm.trans hP2m)
  have hfound : s.vm.findClass cls = some P1.m.cls := findClass_of_methodNamed hP1m
  cases Option.some.inj (hfoundX.symm.trans hfound)
  obtain ⟨c1, kX', hc1, hk, hord, -, -, hn6⟩ := Cond.instantiable_spec (a' (.instantiable cls 6) (by simp [zSuf]))
  cases Option.some.inj (hc1.symm.trans hfound)
  cases Option.some.inj (hkX.symm.trans hk)
  have hsel0 : selectMethod e.platform s.vm P1.m.cls T.fill0 = .method T.fill0 := by
    obtain ⟨c2, r2, m2, q1, q2, q3, q4, -⟩ := Cond.selects_spec (a' (.selects cls Bundle.tFill0 Bundle.tFill0) (by simp [zSuf]))
    cases Option.some.inj (q1.symm.trans hfound)
    cases Option.some.inj (q2.symm.trans (State.methodFound?_of_named Y.fill0 (by decide)))
    cases Option.some.inj (q3.symm.trans Y.fill0)
    rw [Launch.admits_selectMethod X.admits]; exact q4
  have hselF : selectMethod e.platform s.vm P1.m.cls T.fill = .method T.fill := by
    obtain ⟨c2, r2, m2, q1, q2, q3, q4, -⟩ := Cond.selects_spec (a' (.selects cls Bundle.tFill Bundle.tFill) (by simp [zSuf]))
    cases Option.some.inj (q1.symm.trans hfound)
    cases Option.some.inj (q2.symm.trans (State.methodFound?_of_named Y.fill (by decide)))
    cases Option.some.inj (q3.symm.trans Y.fill)
    rw [Launch.admits_selectMethod X.admits]; exact q4
  obtain ⟨cellS0, hcS0, hiss⟩ := Y.statics
  obtain ⟨u0, hu0⟩ := Cond.staticRefV Y.unassigned L.unassignedStatic L.statics hcS0 hiss (a' (.isRef (.static Bundle.tN "UNASSIGNED_STACK" Bundle.steD)) (by simp [zSuf]))
  obtain ⟨sen, hsen⟩ := Cond.staticRefV Y.sentinel L.sentinelStatic L.statics hcS0 hiss (a' (.isRef (.static Bundle.tN "SUPPRESSED_SENTINEL" Bundle.listD)) (by simp [zSuf]))
  obtain ⟨ci198, i198, fB, hk198, hg198, ha198, hsB, -, hnB, htB, hffB⟩ := Cond.ownField (t := .object "java/lang/Object") Y.found L.cls (by decide +kernel) (a' (.fieldLink Bundle.tN 198 Bundle.tN "backtrace" "Ljava/lang/Object;") (by simp [zSuf])) (a' (.lays Bundle.tN Bundle.tN "backtrace" "Ljava/lang/Object;") (by simp [zSuf])) e.platform hpl
  obtain ⟨cellS, hcS', heS, -, hkeep⟩ := X.same.2.2.2.2.2 T.aS cellS0 hcS0
  have hcellS : W.heap[T.aS]? = some cellS := hcS'
  have hout' : ∀ i, (⟨T.aS, i⟩ : Loc) ∉ locs := fun i hmem => by
    have := hlocs _ hmem cellS0 hcS0
    rw [hiss] at this; cases this
  have hknownS : cellS.vm ≠ .unknown := by
    rw [heS]; intro hu
    rw [show cellS0.vm = .unknown from hu] at hiss
    cases hiss
  have hneS : T.aS ≠ a := Nat.ne_of_lt (Nat.lt_of_lt_of_le (Array.getElem?_eq_some_iff.mp hcS0).1 hnew)
  obtain ⟨iM, hffM⟩ := Y.msg
  obtain ⟨tyC, dC, hdC, hdnC⟩ := Cond.laysAt hfound hk Y.cause (a' (.lays cls Bundle.tN "cause" "Ljava/lang/Throwable;") (by simp [zSuf]))
  obtain ⟨tyS, dS, hdS, hdnS⟩ := Cond.laysAt hfound hk Y.stack (a' (.lays cls Bundle.tN "stackTrace" Bundle.steD) (by simp [zSuf]))
  obtain ⟨tyP, dP, hdP, hdnP⟩ := Cond.laysAt hfound hk Y.supp (a' (.lays cls Bundle.tN "suppressedExceptions" Bundle.listD) (by simp [zSuf]))
  obtain ⟨tyM, dM, hdM, hdnM⟩ := Cond.laysAt hfound hk hffM (a' (.lays cls Bundle.tN "detailMessage" "Ljava/lang/String;") (by simp [zSuf]))
  obtain ⟨tyB, dB, hdB, hdnB⟩ := Cond.laysAt hfound hk hffB (a' (.lays cls Bundle.tN "backtrace" "Ljava/lang/Object;") (by simp [zSuf]))
  have bC := Cond.laysApart hdB hdC hdnB hdnC (by rw [hnB, Y.causeName]; decide)
  have bS := Cond.laysApart hdB hdS hdnB hdnS (by rw [hnB, Y.stackName]; decide)
  have bP := Cond.laysApart hdB hdP hdnB hdnP (by rw [hnB, Y.suppName]; decide)
  have hskip : SkipFacts T e.platform s (fun u => u) u0 ((preparedCellV T.toThrowableT (freshCell P1.m.cls kX) a u0 sen).withEntry W.cur) :=
    ⟨{ ci198 := ci198, i198 := i198, fBack := fB }, ⟨hk198, hg198, ha198, hsB⟩, by
      have := fresh_default (c := P1.m.cls) tyB
      rw [htB] at this
      simpa [preparedCellV, Cell.setSlot, Cell.withEntry, Array.getElem?_setIfInBounds, bC, bS, bP, bC.symm, bS.symm, bP.symm, defaultValue] using this, fun _ _ => rfl⟩
  obtain ⟨tm, methC, cdC, kC, vm₁, hnC, -, -, -, -, -, -, -, hW₁, st1⟩ := Steps.initColdS (tb := p.tables) (e := e) (below := below) (s := s) (U := W) X.here hexec X.warmed hpl hown (t := Bundle.initS cls) rfl rfl (Bundle.fit_spec hcls).2
    (a' (.methodLink own ic (Bundle.initS cls)) (by simp [zSuf])) (hP (.instanceMethod (Bundle.initS cls)) (by simp [Bundle.passSAtoms])) (bytes := rx) (maxL := 2) (hP (.code (Bundle.initS cls) rx 2 none) (by simp [Bundle.passSAtoms]))
    (f := g) hg (a := a) (msg := msg) (rest := .ref a :: rest) hstack hd6
  cases Option.some.inj (hnC.symm.trans hP1m)
  have X₁ := X.noted hW₁
  obtain ⟨vm₂, X₂, st2⟩ := X₁.ctorMessageOffV hexec (g := { g with stack := .ref a :: rest }) hg hsize T L Z LZ M LM (P1 :: P2 :: Ps)
    (fun P hP => by
      rcases List.mem_cons.mp hP with rfl | hP
      · exact L1
      · rcases List.mem_cons.mp hP with rfl | hP
        · exact L2
        · exact hL P hP) ⟨hlink1, hlink2, hlink⟩ (u0 := u0) (sen := sen) (self := a) hmsg (cell := freshCell P1.m.cls kX) (cellS := cellS)
    hcell (fun _ => by simp) (by simp) rfl rfl hsel0 hselF hcellS hneS hknownS (by rw [hkeep _ (hout' _)]; exact hu0) (by rw [hkeep _ (hout' _)]; exact hsen)
    (Takes.of_laid hk hord tyC (by rw [Y.causeType]; rfl)) (Takes.of_laid hk hord tyS (by rw [Y.stackType]; exact fits_refV_array _ u0)) (Takes.of_laid hk hord tyP (by rw [Y.suppType]; exact fits_refV_object _ sen))
    (Takes.of_laid hk hord tyM (by rw [Y.msgType]; exact fits_refV_object _ ⟨msg, hmsg⟩)) Y.objLocals hskip htr [] hd6
    (by simp only [List.length_cons, hlen]; omega) (by simp only [List.length_cons, hlen]; exact hRlocals)
  obtain ⟨hwalk, hrun, hended, hWU, hsame⟩ := X₂.athrowLeaves hexec (g := { g with stack := .ref a :: rest, pc := g.pc + 3 }) hg hlocked hentered hout (a := a) (rest := rest) rfl hd9
  have hlt : a < ((W.setVm vm₁).setVm vm₂).heap.size := (Array.getElem?_eq_some_iff.mp hcell).1
  have hU := heapAt_setCell_self (s := (W.setVm vm₁).setVm vm₂) (plainBareV T.toThrowableT (freshCell P1.m.cls kX) a u0 sen msg) hlt
  refine ⟨_, st1 _ (fun acts => ?_), hrun, hended, hWU, hsame.weaken (fun y hy hlt' => ?_) (Nat.le_refl _) (Nat.le_refl _), _, hU, hfound, rfl⟩
  · rw [doInvoke_state]
    exact st2 _ hwalk
  · rcases List.mem_append.mp hy with h1 | h1
    · exact h1
    · exfalso
      have hb : y.base = a := by
        simp only [List.mem_cons, List.not_mem_nil, or_false] at h1
        rcases h1 with rfl | rfl | rfl | rfl | rfl <;> rfl
      rw [hb] at hlt'
      exact Nat.not_lt.mpr hnew hlt'
end TH
section TI
variable {p : Program} {l : Launch} {e : Env} {R : Room} {s : State} {m : MethodId} {args : Array Value} {below : List Frame} {meth : Method} {c : Code} {H : Heap} {locs : List Loc} {cells slots : Nat}
variable {mc ms : Nat} {free : Addr → Prop} {ls : Array Slot} {rest : List Value}
variable {Qc : Array Value → State → Outcome → State → Prop} {XC : String → State → State → Prop}
/-- new; dup; the text; the constructor; athrow -/
theorem zthrow {cc : ByteArray} {pc n : Nat} {ig : Instr} (hexec : p.tables.exec = Jvm.exec) (hb : c.code = cc) (hl : l.stackTraces = false) {own cls text Y9 : String} {r : List String} {ik is ic ix sa : Nat} {rx : ByteArray} {A : Nat → Prop}
    (x0 : decode rx 0 = .ok (.aload_n 0, 1)) (x1 : decode rx 1 = .ok (.aload_n 1, 1)) (x2 : decode rx 2 = .ok (.invokespecial ix, 3)) (x5 : decode rx 5 = .ok (.return_, 1))
    (hown : s.vm.findClass own = some m.cls) (hcls : Bundle.fit cls = true) (hY9 : Bundle.fit Y9 = true) (hnames : ∀ n ∈ r, Bundle.fit n = true)
    (hk : (Cond.classLink own ik cls).before args s = true) (hini : (Cond.initialized cls).before args s = true) (hstr : vk_R own is text sa s) (hat : ∀ w ∈ (zAtX own ic cls Y9 r ix rx).filter vx_no, w.before args s = true)
    (hgood : ∀ w ∈ (zAtX own ic cls Y9 r ix rx).filter vx_no, vx_ot w = true)
    (hU : vx_Zq Bundle.tN "UNASSIGNED_STACK" Bundle.steD A s s.heap) (hN : vx_Zq Bundle.tN "SUPPRESSED_SENTINEL" Bundle.listD A s s.heap) (hS : va_S A s.heap H locs) (hsize : ls.size = c.maxLocals)
    (d0 : decode cc pc = .ok (.new ik, 3)) (d3 : decode cc (pc + 3) = .ok (.dup, 1)) (d4 : (n = 2 ∧ ig = .ldc is) ∨ (n = 3 ∧ ig = .ldc_w is)) (d5 : decode cc (pc + 4) = .ok (ig, n)) (d6 : decode cc (pc + 4 + n) = .ok (.invokespecial ic, 3)) (d9 : decode cc (pc + 4 + n + 3) = .ok (.athrow, 1))
    (hout : ∀ x ∈ c.exceptionTable.toList, False)
    (hRframes : r.length + 4 < R.frames) (hRlocals : (rest.map fun v => v.category).sum + (13 * (r.length + 2) + 43) ≤ R.locals) (hRcells : cells + 1 ≤ R.cells) (hRslots : slots + 6 ≤ R.slots) (hlocks : meth.locks = false)
    (hx : ∀ t : State, s.vm.Alike t.vm → t.heap.size = H.size + 1 → (∀ q : Nat, q < H.size → t.heap[q]? = H[q]?) → XC cls s t)
    (hf : ∀ z ∈ locs, free z.base) (hc : cells + 1 ≤ mc) (hs : slots + 6 ≤ ms) :
    W p l e R s m args below meth c H locs cells slots (vx_MQ below Qc XC args s mc ms free) (F0 m pc ls rest) := by
  intro T hT X
  have htr : e.platform.stackTraces = false := (show e.platform.stackTraces = l.stackTraces by rw [X.admits.platform]).trans hl
  have Y := vx_rebase X (R' := { frames := R.frames, locals := R.locals, cells := 1, slots := 6 }) (Nat.le_refl _) (Nat.le_refl _) hRcells hRslots
  obtain ⟨s', hA⟩ : ∃ z, z = (T.setVm s.vm).setFrames (.invoking m args :: below) := ⟨_, rfl⟩
  rw [← hA] at Y
  have hvm : s'.vm = s.vm := by rw [hA]; rfl
  have hhp : s'.heap = H := by rw [hA]; exact hT
  have hW0 : s.WarmedH s'.vm := by rw [hvm]; exact State.WarmedH.refl s
  have hat' : ∀ w ∈ (zAtX own ic cls Y9 r ix rx).filter vx_no, w.before args s' = true := fun w hw => vx_ot_at hW0 hvm.symm (hgood w hw) (hat w hw)
  have hk' : (Cond.classLink own ik cls).before args s' = true := vx_ot_at hW0 hvm.symm rfl hk
  have hini' : (Cond.initialized cls).before args s' = true := vx_ot_at hW0 hvm.symm rfl hini
  have hU' : vx_Zq Bundle.tN "UNASSIGNED_STACK" Bundle.steD A s' s'.heap := by rw [hhp]; exact vx_Zq.moved hW0.alike (hU.kept hS.2.1)
  have hN' : vx_Zq Bundle.tN "SUPPRESSED_SENTINEL" Bundle.listD A s' s'.heap := by rw [hhp]; exact vx_Zq.moved hW0.alike (hN.kept hS.2.1)
  have h : ∀ w ∈ zAtX own ic cls Y9 r ix rx, w.before args s' = true := vx_own hat' (vx_isRefq hU'.1) (vx_isRefq hN'.1) hU'.2.word hN'.2.word
  have hown' : s'.vm.findClass own = some m.cls := by rw [hvm]; exact hown
  have hins : (Cond.instantiable cls 6).before args s' = true := h _ (by simp [zAtX, zSuf])
  obtain ⟨vm₁, cX, kX, hfX, hkX, -, -, X₁, st1⟩ := Y.newCold hexec (own := own) (C := cls) (index := ik) (n := 6) hown' hk' hins hini'
    (g := F0 m pc ls rest) rfl (by rw [hb]; exact d0) (Nat.le_refl _) (Nat.le_refl _)
  generalize hT1 : (T.setVm vm₁).pushCell { cls := cX, slots := kX.instanceTypes.map defaultValue, vm := .none } = T1 at X₁ st1
  have hcat : (Value.ref T.heap.size).category = 1 := rfl
  have hcellA : T1.heap[T.heap.size]? = some (freshCell cX kX) := by rw [← hT1]; exact State.heap_pushCell_size _ _
  have d3' : decode c.code (pc + 3) = .ok (.dup, 1) := by rw [hb]; exact d3
  have d4' : decode c.code (pc + 4) = .ok (ig, n) := by rw [hb]; exact d5
  have hstr' : vk_R own is text sa s' := vk_R.warm hW0 hstr
  obtain ⟨U, hsteps, hrun, hend, hW, hsame, ce, hce, hO1, hO2⟩ := zctorX X₁ hexec htr (own := own) (cls := cls) (Y9 := Y9) (r := r) (ic := ic) x0 x1 x2 x5 hown' hcls hY9 hnames h (fun x hx => nomatch hx) hfX hkX hcellA (by rw [hhp, hT]; exact Nat.le_refl _) (msg := .ref sa) rfl
    (g := { method := m, pc := pc + 4 + n, locals := ls, stack := .ref sa :: .ref T.heap.size :: .ref T.heap.size :: rest, locked := none }) rfl hsize rfl rfl (rest := rest) rfl
    (by rw [hb]; exact d6) (by rw [hb]; exact d9) (fun x hx => (hout x hx).elim) hRframes (by simp only [List.map_cons, List.sum_cons, hcat]; omega) hlocks
  obtain ⟨f1, f2⟩ := vx_frame hsame
  rw [hhp] at f1 f2
  have hWs : s.WarmedH U.vm := State.WarmedH.trans hW0 hW
  have hcl : s.vm.findClass cls = some ce.cls := by
    have h9 := hO1
    rw [hvm] at h9
    exact h9
  have hexact : U.heap.size = H.size + 1 := by
    have g1 : T.heap.size < U.heap.size := (Array.getElem?_eq_some_iff.mp hce).1
    have g2 : U.heap.size ≤ s'.heap.size + (0 + 1) := hsame.2.2.1
    rw [hhp] at g2
    rw [hT] at g1
    omega
  have hall : s.sameButNew ({ U with vm := s.vm } : State) locs mc ms := by
    subst hA
    obtain ⟨e1, e2⟩ := hsame
    rw [State.setFrames_setFrames] at e1
    have h2 : (T.setVm s.vm).sameButNew ({ U with vm := s.vm } : State) [] (0 + 1) (0 + 6) := ⟨e1, e2⟩
    have h3 := X.same.trans h2
    rw [List.append_nil] at h3
    exact h3.mono hc hs
  refine ⟨U, ?_, .threw T.heap.size, hrun, hend, Or.inr ⟨T.heap.size, rfl, cls, ce, locs, hx U hWs.alike hexact (fun q hq => f2 q hq (fun z hz => nomatch hz)), hce, hO2, hcl, hWs, hall, hf⟩⟩
  refine st1 _ ?_
  show Steps p.tables e below (T1.setTop { method := m, pc := pc + 3, locals := ls, stack := .ref T.heap.size :: rest, locked := none }) _
  jvm_step X₁.here [X₁.here.top, hexec, d3', Value.category]
  rcases d4 with ⟨rfl, rfl⟩ | ⟨rfl, rfl⟩
  · exact X₁.ldcString hexec (own := own) (text := text) (index := is) (a := sa) hown' hstr'.1 hstr'.2
      (g := { method := m, pc := pc + 4, locals := ls, stack := .ref T.heap.size :: .ref T.heap.size :: rest, locked := none }) rfl d4' _ hsteps
  · exact X₁.ldcStringW hexec (own := own) (text := text) (index := is) (a := sa) hown' hstr'.1 hstr'.2
      (g := { method := m, pc := pc + 4, locals := ls, stack := .ref T.heap.size :: .ref T.heap.size :: rest, locked := none }) rfl d4' _ hsteps
end TI
/-! CONTRACTS OF METHODS THAT THROW -/
def zXC (G : Gd) (E : String) (h1 : Hp) : String → State → State → Prop := fun E' st t => E' = E ∧ zHR G h1 t.heap ∧ va_F (zA G) st t
/-- the method Y, called with as in the heap h, throws an E, the heap being h1 then -/
def CalX (G : Gd) (j : Nat) (Y : Yx) (as : List Value) (h : Hp) (E : String) (h1 : Hp) : Prop :=
  zn h ≤ zn h1 ∧ zs h ≤ zs h1 ∧ (zOK G → ∀ (l : Launch), l.stackTraces = false → ∀ (dd : Nat), j ≤ dd → vx_Met l Y.1 [Cond.code Y.1 Y.2.1 Y.2.2.1 Y.2.2.2] ({ frames := dd, cells := zn h1 - zn h, slots := zs h1 - zs h, locals := 48 * dd } : Room) (zPc G as h) (fun _ _ _ _ => False) (zXC G E h1) (zn h1 - zn h) (zs h1 - zs h) (zA G))
/-- where a method that may throw ends: it returns, or stands at a throw -/
def ZX (Y : Yx) (o : Sum (Int32 × Hp) (Nat × Hp)) : Cf → Prop := match o with
  | .inl q => Ret Y (some (.int q.1)) q.2
  | .inr q => fun F => F.1 = q.1 ∧ F.2.2.1 = [] ∧ F.2.2.2 = q.2
/-- a word that holds on -/
def zMv (w : Cond) : Bool := goodWord w || (match w with | .declares _ => true | .castable _ _ => true | _ => false)
theorem zEn.wordM {G : Gd} {s : State} {args : Array Value} (hO : zOK G) (hE : zEn G s) {w : Cond} (hw : w ∈ lw_tbl) (hg : zMv w = true) : w.before args s = true := by
  by_cases h1 : goodWord w = true
  · exact hE.word hO hw h1
  · obtain ⟨⟨a0, h0⟩, -⟩ := hO
    have h9 := h0 w hw
    unfold zMv at hg
    rw [Bool.eq_false_iff.mpr h1, Bool.false_or] at hg
    split at hg
    · exact (va_Nw.warmD hE.1 (va_Nw.of rfl h9)).use rfl
    · exact (va_Nw.warmC hE.1 (va_Nw.of rfl h9)).use rfl
    · cases hg
theorem zEn.stat {G : Gd} {s : State} (hO : zOK G) (hE : zEn G s) {n d : String} (h1 : Cond.isRef (.static Bundle.tN n d) ∈ flatC (Jvm.Cond.and given_1 narrow_1)) (h2 : Cond.laysStatic Bundle.tN n d ∈ lw_tbl) : vx_Zq Bundle.tN n d (zA G) s s.heap := by
  obtain ⟨-, -, -, -, a0, g1, g2, -⟩ := hO
  have q := vx_Zqof (A := zA G) (g2 _ h2) (g2 (.initialized Bundle.tN) (by decide +kernel)) (flat_of_before _ g1 _ h1) (fun a ha hA => absurd ha (Nat.not_lt.mpr hA))
  exact (vx_Zq.moved hE.1.alike q).kept (fun a ha _ => hE.2.2 a ha)
/-- what the tables say of a throw at pc: the entries of class, text, constructor; the constructor's bytes and entry; the class above -/
def Tk (own : String) (cc : ByteArray) (pc : Nat) (E : String) : Prop := ∃ (ik is ic ix n : Nat) (ig : Instr) (text Y9 : String) (rx : ByteArray),
  (decode rx 0 = .ok (.aload_n 0, 1) ∧ decode rx 1 = .ok (.aload_n 1, 1) ∧ decode rx 2 = .ok (.invokespecial ix, 3) ∧ decode rx 5 = .ok (.return_, 1)) ∧
  (Bundle.fit E = true ∧ Bundle.fit Y9 = true) ∧ (Cond.classLink own ik E ∈ lw_tbl ∧ Cond.initialized E ∈ lw_tbl ∧ Cond.stringRef own is text ∈ lw_tbl) ∧
  (∀ w ∈ (zAtX own ic E Y9 ["java/lang/Exception"] ix rx).filter vx_no, (w ∈ lw_tbl ∧ zMv w = true) ∧ vx_ot w = true) ∧
  decode cc pc = .ok (.new ik, 3) ∧ decode cc (pc + 3) = .ok (.dup, 1) ∧ ((n = 2 ∧ ig = .ldc is) ∨ (n = 3 ∧ ig = .ldc_w is)) ∧ decode cc (pc + 4) = .ok (ig, n) ∧ decode cc (pc + 4 + n) = .ok (.invokespecial ic, 3) ∧ decode cc (pc + 4 + n + 3) = .ok (.athrow, 1)
theorem CalX.of {G : Gd} {Y : Yx} {j pc : Nat} {as : List Value} {h h1 : Hp} {E : String} (hp : plainName Y.1.cls = true) (hlen : (lg_sl as).length ≤ Y.2.2.1) (h6 : 6 ≤ j) (hT : Tk Y.1.cls Y.2.1 pc E)
    (k : Ev G (Y.1.cls, Y.2.1, Y.2.2.1, false) j 0 (lv_args 0 as) [] h (fun F => F.1 = pc ∧ F.2.2.1 = [] ∧ F.2.2.2 = h1)) : CalX G j Y as h E (pN h1 40 6) := by
  obtain ⟨F, ⟨k1, k2, k3⟩, rfl, hz1, rfl⟩ := k
  obtain ⟨ik, is, ic, ix, n, ig, text, Y9, rx, ⟨x0, x1, x2, x5⟩, ⟨t1, t2⟩, ⟨w1, w2, w3⟩, wA, d0, d3, d4, d5, d6, d9⟩ := hT
  have en : zn (pN F.2.2.2 40 6) = zn F.2.2.2 + 1 := rfl
  have es : zs (pN F.2.2.2 40 6) = zs F.2.2.2 + 6 := rfl
  refine ⟨by omega, by omega, fun hO l hst dd hdd => ?_⟩
  refine vx_ofW (cc := Y.2.1) (maxL := Y.2.2.1) (ret := Y.2.2.2) hp rfl (fun p e s m args below meth c s₁ B hml hex hv => ?_)
  obtain ⟨rfl, hH, hE⟩ := hv
  rw [lg_entry_eq]
  have hl := lv_entry (as.map (zcv G)) (n := Y.2.2.1) (by rw [zlg_len]; exact hlen)
  generalize (lg_sl (as.map (zcv G)) ++ List.replicate (Y.2.2.1 - (lg_sl (as.map (zcv G))).length) Slot.unset).toArray = ls at hl ⊢
  rw [zlv_args] at hl
  have hown : s.vm.findClass Y.1.cls = some m.cls := findClass_of_methodNamed B.named
  refine k3 p l e _ s m _ below meth c s.heap [] 0 0 _ ls ⟨hO, hE, B.exec, B.bytes, hml, hown, fun q => Bool.noConfusion q, B.notSynchronized, hst⟩ hdd (Nat.mul_le_mul_left 48 hdd) (by show 0 + _ ≤ zn (pN F.2.2.2 40 6) - zn h; rw [en]; omega) (by show 0 + _ ≤ zs (pN F.2.2.2 40 6) - zs h; rw [es]; omega) hH va_S.rf hl ?_
  intro H1 locs1 ls1 hH1 hS1 hl1
  rw [hz1]
  obtain ⟨sa, hsa⟩ : ∃ sa, vk_R Y.1.cls is text sa s := by
    obtain ⟨⟨a0, h0⟩, -⟩ := hO
    have hown0 : (g0 G).vm.findClass Y.1.cls = some m.cls := by rw [← hE.1.alike.findClass]; exact hown
    obtain ⟨-, -, -, sa, -, -, -, -, -, hev⟩ := Cond.stringRef_spec hown0 (h0 _ w3)
    exact ⟨sa, vk_R.warm hE.1 (vk_R.of (h0 _ w3) hev)⟩
  refine zthrow (XC := zXC G E (pN F.2.2.2 40 6)) (n := n) (ig := ig) (cc := Y.2.1) (own := Y.1.cls) (cls := E) (text := text) (Y9 := Y9) (r := ["java/lang/Exception"]) (ik := ik) (is := is) (ic := ic) (ix := ix) (sa := sa) (rx := rx) (A := zA G) B.exec B.bytes hst x0 x1 x2 x5 hown t1 t2 (by decide) (hE.word hO w1 rfl) (hE.word hO w2 rfl) hsa
    (fun w hw => hE.wordM hO (wA w hw).1.1 (wA w hw).1.2) (fun w hw => (wA w hw).2) (hE.stat hO (by decide +kernel) (by decide +kernel)) (hE.stat hO (by decide +kernel) (by decide +kernel)) hS1 (by rw [hml]; exact hl1.1) d0 d3 d4 d5 d6 d9 hex ?_ ?_ ?_ ?_ B.notSynchronized ?_ hS1.2.2 ?_ ?_
  · show 1 + 4 < dd
    omega
  · show 0 + (13 * (1 + 2) + 43) ≤ 48 * dd
    omega
  · show 0 + _ + 1 ≤ zn (pN F.2.2.2 40 6) - zn h
    rw [en]; omega
  · show 0 + _ + 6 ≤ zs (pN F.2.2.2 40 6) - zs h
    rw [es]; omega
  · intro t hal hsz hkp
    refine ⟨rfl, zHR_new hH1 hkp hsz (Or.inr (Or.inr pN_T)), ?_, ?_⟩
    · rw [hsz]
      exact Nat.le_succ_of_le hS1.1
    · intro q hq hA
      rw [hkp q (Nat.lt_of_lt_of_le hq hS1.1)]
      exact hS1.2.1 q hq hA
  · rw [en]; omega
  · rw [es]; omega
