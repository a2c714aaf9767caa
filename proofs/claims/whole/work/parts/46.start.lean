/-! FROM THE PURE LAW TO THE CLAIM -/
/-- the empty pure heap -/
def h00 : Hp := ((8, 0), fun _ => 0, fun _ => 0, fun _ _ => 0, fun _ _ => 0, fun _ _ => 0, fun _ _ => 0, fun _ _ => 0, fun _ _ => 0)
/-- the law, of pure functions: what is owed -/
def Owed : Prop := ∀ (SL : Nat) (xs : Nat → Int32), SL ≤ 2560 → ∃ h : Hp, f_L_law SL xs 1 h00 = some (1, h) ∧ zn h ≤ 8 + 601024 ∧ zs h ≤ 7293034
theorem zInst : ∀ i, i < 13 → Cond.instantiable (kR i) (kN i) ∈ lw_tbl := by decide +kernel
theorem zArr {s : State} {args : Array Value} (hts : ∀ w ∈ lw_tbl, w.before args s = true) {t : Nat} (h1 : 20 ≤ t) (h2 : t < 30) : ∃ cA, ArrOfT s cA (kA t) ∧ va_RA s cA (kA t) := by
  rcases (show t = 20 ∨ t = 21 ∨ t = 22 ∨ t = 23 ∨ t = 24 ∨ t = 25 ∨ t = 26 ∨ t = 27 ∨ t = 28 ∨ t = 29 by omega) with rfl | rfl | rfl | rfl | rfl | rfl | rfl | rfl | rfl | rfl
  · obtain ⟨c, k, comp, g1, g2, g3⟩ := Cond.arrayClass_spec (hts (.arrayClass .byte) (by decide +kernel))
    exact ⟨c, fun n z => ⟨fun k h => (by cases h), k, g2, comp, g3⟩, g1⟩
  · obtain ⟨c, k, comp, g1, g2, g3⟩ := Cond.arrayClass_spec (hts (.arrayClass .char) (by decide +kernel))
    exact ⟨c, fun n z => ⟨fun k h => (by cases h), k, g2, comp, g3⟩, g1⟩
  · obtain ⟨c, k, comp, g1, g2, g3⟩ := Cond.arrayClass_spec (hts (.arrayClass .int) (by decide +kernel))
    exact ⟨c, fun n z => ⟨fun k h => (by cases h), k, g2, comp, g3⟩, g1⟩
  · obtain ⟨c, k, comp, g1, g2, g3⟩ := Cond.arrayClass_spec (hts (.arrayClass .boolean) (by decide +kernel))
    exact ⟨c, fun n z => ⟨fun k h => (by cases h), k, g2, comp, g3⟩, g1⟩
  · obtain ⟨c, k, comp, g1, g2, g3⟩ := Cond.arrayClass_spec (hts (.arrayClass .long) (by decide +kernel))
    exact ⟨c, fun n z => ⟨fun k h => (by cases h), k, g2, comp, g3⟩, g1⟩
  · obtain ⟨comp, c, k, g1, g2, g3, g4, g5⟩ := Cond.arrayOver_spec (hts (.arrayOver (.object "TaskWeave$Replica")) (by decide +kernel))
    exact ⟨c, fun n z => ⟨fun k h => (by cases h), k, g3, comp, g4⟩, k, comp, g3, g4, g1, g5⟩
  · obtain ⟨comp, c, k, g1, g2, g3, g4, g5⟩ := Cond.arrayOver_spec (hts (.arrayOver (.object "TaskWeave$Shard")) (by decide +kernel))
    exact ⟨c, fun n z => ⟨fun k h => (by cases h), k, g3, comp, g4⟩, k, comp, g3, g4, g1, g5⟩
  · obtain ⟨comp, c, k, g1, g2, g3, g4, g5⟩ := Cond.arrayOver_spec (hts (.arrayOver (.object "TaskWeave$Shelf")) (by decide +kernel))
    exact ⟨c, fun n z => ⟨fun k h => (by cases h), k, g3, comp, g4⟩, k, comp, g3, g4, g1, g5⟩
  · obtain ⟨comp, c, k, g1, g2, g3, g4, g5⟩ := Cond.arrayOver_spec (hts (.arrayOver (.object "TaskWeave$Workflow")) (by decide +kernel))
    exact ⟨c, fun n z => ⟨fun k h => (by cases h), k, g3, comp, g4⟩, k, comp, g3, g4, g1, g5⟩
  · obtain ⟨comp, c, k, g1, g2, g3, g4, g5⟩ := Cond.arrayOver_spec (hts (.arrayOver (.object "java/lang/Object")) (by decide +kernel))
    exact ⟨c, fun n z => ⟨fun k h => (by cases h), k, g3, comp, g4⟩, k, comp, g3, g4, g1, g5⟩
theorem z_ground {s : State} {b : Nat} (hts : ∀ w ∈ lw_tbl, w.before #[Value.ref b] s = true) (hbl : b < s.heap.size) (hgv : (Jvm.Cond.and given_1 narrow_1).before #[Value.ref b] s = true) : ∃ G : Gd, g0 G = s ∧ zOK G ∧ gX G 1 = b := by
  have hC : ∀ i, ∃ q : ClassId × (Nat → Nat), i < 13 → u_Kn s (kR i) (kT i) (kN i) q.1 q.2 := by
    intro i
    by_cases hi : i < 13
    · obtain ⟨cC, iS, h⟩ := u_known (n := kN i) hts (k_in i hi) (hts (.instantiable (kR i) (kN i)) (zInst i hi))
      exact ⟨(cC, iS), fun _ => h⟩
    · exact ⟨(0, fun _ => 0), fun h => absurd h hi⟩
  have hY : ∀ t, ∃ cA : ClassId, 20 ≤ t → t < 30 → ArrOfT s cA (kA t) ∧ va_RA s cA (kA t) := by
    intro t
    by_cases ht : 20 ≤ t ∧ t < 30
    · obtain ⟨cA, h⟩ := zArr hts ht.1 ht.2
      exact ⟨cA, fun _ _ => h⟩
    · exact ⟨0, fun h1 h2 => absurd ⟨h1, h2⟩ ht⟩
  have hs := flat_of_before _ hgv
  obtain ⟨t2, ht2, hT2⟩ := va_Tof (N := 0) (f := fun _ => .null) (A := fun q => s.heap.size ≤ q) (by decide) (hs (Cond.arrayOf (.static "java/util/ArrayList" nDC nOR) (.object "java/lang/Object")) (by decide +kernel)) (va_eqt (hs (Cond.eq (.length (.static "java/util/ArrayList" nDC nOR)) (.int 0)) (by decide +kernel))) (fun j hj => absurd hj (Nat.not_lt_zero j)) (fun a h q => absurd h (Nat.not_lt.mpr q))
  obtain ⟨t3, ht3⟩ := va_Mi.of (hs (Cond.isRef (.mirror nOR)) (by decide +kernel))
  have hl2 : t2 < s.heap.size := by
    obtain ⟨cell, hcell, -⟩ := hT2
    exact (Array.getElem?_eq_some_iff.mp hcell).1
  refine ⟨(s, fun i => (Classical.choose (hC i)).1, fun i => (Classical.choose (hC i)).2, fun t => Classical.choose (hY t), fun q => if q = 2 then t2 else if q = 3 then t3 else b), rfl, ⟨⟨_, hts⟩, fun i hi => Classical.choose_spec (hC i) hi, fun t h1 h2 => Classical.choose_spec (hY t) h1 h2, ?_, _, hgv, hts, ht2, ht3⟩, rfl⟩
  intro q hq
  rcases (show q = 0 ∨ q = 1 ∨ q = 2 by omega) with rfl | rfl | rfl
  · exact hbl
  · exact hbl
  · exact hl2
def R_law : String := "TaskWeaveLaw"
def lw_P (b : Addr) (xs : List Int32) (args : Array Value) (s : State) : Prop := args = #[.ref b] ∧ s.IntsAt b xs ∧ xs.length ≤ 2560 ∧ (Jvm.Cond.and given_1 narrow_1).before args s = true
def lw_Q (_ : Array Value) (s : State) (o : Outcome) (t : State) : Prop := o = .returned (some (.int 1)) ∧ Framed s o t [] 601024 7293034
def lw_Z (below : List Frame) (a : Array Value) (s : State) : State → Prop := fun t => ∃ o, t.status = .running ∧ Ended t below o ∧ lw_Q a s o t
/-- the law's own end, with 1 on the stack, nothing written that was there before, its room as the claim has it -/
theorem lw_ret {p : Program} {l : Launch} {e : Env} {s : State} {m : MethodId} {below : List Frame} {meth : Method} {c : Code} {b : Nat} (hx : p.tables.exec = Jvm.exec) (hb : c.code = code) (hr : meth.sig.returnType = ret) (hlocks : meth.locks = false) {pc : Nat} {H : Heap} {ls : Array Slot} (hdg : decode code pc = .ok (.ireturn, 1)) : W p l e room_1 s m #[Value.ref b] below meth c H [] 601024 7293034 (lw_Z below #[Value.ref b] s) (F0 m pc ls [.int 1]) := by
  intro T hT X
  obtain ⟨fs, hret, hrun, hended, hW, hframe⟩ := X.leave (v := some (.int 1)) (hlocks := hlocks) (fun h => by rw [hr] at h; cases h)
  have hmeth' : T.vm.method? m = some meth := X.method'
  refine ⟨T.setFrames fs, ?_, .returned (some (.int 1)), hrun, hended, rfl, ⟨_, rfl⟩, hW, hframe⟩
  jvm_step X.here [X.here.top, hx, hb, hdg, hmeth', hr, ret, narrow_b1]
  (try refine ⟨rfl, ?_⟩); (try refine ⟨rfl, ?_⟩)
  first | (intro acts; rw [hret _ acts rfl rfl rfl]) | rw [hret _ _ rfl rfl rfl]
  exact Steps.refl _
/-- what holds at the law's entry: the machine, the code, the tables' words (any of lw_tbl by 'hts w (by decide +kernel)'), the script of L ints xs at the cell b, what the Statement gives of the start (any of its parts by flat_of_before) -/
def lw_At (p : Program) (s : State) (m : MethodId) (meth : Method) (c : Code) (b L : Nat) (xs : Nat → Int32) : Prop :=
  p.tables.exec = Jvm.exec ∧ c.code = code ∧ meth.sig.returnType = ret ∧ c.maxLocals = 7 ∧ s.vm.findClass R_law = some m.cls ∧ (∀ w ∈ lw_tbl, w.before #[Value.ref b] s = true) ∧ va_X b L xs s s.heap ∧ b < s.heap.size ∧ meth.locks = false ∧ (Jvm.Cond.and given_1 narrow_1).before #[Value.ref b] s = true
theorem zEn.rf {G : Gd} {s : State} (h : g0 G = s) : zEn G s := by
  subst h
  exact ⟨State.WarmedH.refl _, Nat.le_refl _, fun q _ => rfl⟩
/-- from the entry, for every script of at most 2560 ints, the law comes to its end with true -/
theorem whole_start (own : Owed) {p : Program} {e : Env} {s : State} {m : MethodId} {below : List Frame} {meth : Method} {c : Code} (l : Launch) (hst : l.stackTraces = false) {b L : Nat} {xs : Nat → Int32} (hL : L ≤ 2560) (C0 : lw_At p s m meth c b L xs) : W p l e room_1 s m #[Value.ref b] below meth c s.heap [] 0 0 (lw_Z below #[Value.ref b] s) (entryFrame m ([Value.ref b] : List Value).toArray 7) := by
  obtain ⟨hx, hb, hr, hml, hown, hts, hX, hbl, hlocks, hgv⟩ := C0
  obtain ⟨G, hG, hO, hX1⟩ := z_ground hts hbl hgv
  obtain ⟨h1, e1, hn, hs⟩ := own L xs hL
  have hXG : va_X (gX G 1) L xs (g0 G) (g0 G).heap := by rw [hX1, hG]; exact hX
  have k := f_L_law_ok (G := G) (d := 651) L xs hXG (by decide) 1 (lv_args 0 [zrf 1]) h00 (1, h1) (by simp [lv_args, zlk]) e1
  obtain ⟨F, ⟨k1, k2, k3⟩, hF, hz⟩ := k
  subst hF
  rw [lg_entry_eq]
  have hl := lv_entry ([Value.ref b]) (n := 7) (Nat.le_of_ble_eq_true rfl)
  generalize (lg_sl ([Value.ref b]) ++ List.replicate (7 - (lg_sl ([Value.ref b])).length) Slot.unset).toArray = ls at hl ⊢
  have hl : lv_has ls 7 (zlm G (lv_args 0 [zrf 1])) := by
    have e9 : zlm G (lv_args 0 [zrf 1]) = lv_args 0 [Value.ref b] := by
      show [(0, Value.ref (gX G 1))] = [(0, Value.ref b)]
      rw [hX1]
    rw [e9]
    exact hl
  have n0 : zn h00 = 8 := rfl
  have s0 : zs h00 = 0 := rfl
  refine k3 p l e room_1 s m _ below meth c s.heap [] 0 0 _ ls ⟨hO, zEn.rf hG, hx, hb, hml, hown, fun q => Bool.noConfusion q, hlocks, hst⟩ (by decide) (by decide) (by show 0 + _ ≤ 601024; rw [n0]; omega) (by show 0 + _ ≤ 7293034; rw [s0]; omega) ⟨Nat.le_refl 8, by rw [hG]; rfl, fun r g1 g2 => absurd g2 (by rw [n0]; omega)⟩ va_S.rf hl ?_
  intro H1 locs1 ls1 hH1 hS1 hl1
  rcases hz with ⟨q1, q2, q3, q4⟩ | ⟨q1, x, ty, q2, q3, q4, q5⟩ | ⟨q1, x, q2, q3, q4⟩ | ⟨q1, v, ty, q2, q3, q4, q5, q6⟩
  · cases q3
  · cases q3
    rw [q2]
    refine va_forget (fun q hq => by have := hS1.2.2 q hq; unfold zA at this; rw [hG] at this; exact this) ?_
    refine W.widen (k := 601024) (n := 7293034) (by rw [n0]; omega) (by rw [s0]; omega) ?_
    exact lw_ret hx hb hr hlocks q1
  · cases q3
  · cases q3
    rcases q4 with q4 | ⟨q, q4⟩ <;> cases q4
set_option maxHeartbeats 4000000 in
theorem lw_walk (own : Owed) (l : Launch) (hst : l.stackTraces = false) (b : Addr) (xs : List Int32) : MetFree l x (headSpec (Jvm.Cond.code x code maxLocals ret :: tables_1) room_1) (lw_P b xs) (fun _ _ _ _ _ => True) lw_Q := by
  refine MetFree.of_bodyS (code := code) (maxLocals := maxLocals) (ret := ret) (by decide) ?_ ?_
  · intro args s m h hn
    obtain ⟨meth, c, h1, h2, h3, h4, h5, h6, -, -⟩ := Cond.code_spec hn (atoms_spec (ws := Jvm.Cond.code x code maxLocals ret :: tables_1) h _ List.mem_cons_self)
    exact ⟨meth, c, h1, h2, h3, h4, h5, h6⟩
  · intro p e s m args below meth c s₁ B hml0 hP _
    obtain ⟨rfl, hx, hbd, hgv⟩ := hP
    obtain ⟨scr, harrAt, hlist, hof, hsmall⟩ := hx
    obtain ⟨hcb, hkn, -, -⟩ := State.arrayAt?_spec harrAt
    have hown : s.vm.findClass R_law = some m.cls := findClass_of_methodNamed B.named
    have hts0 : ∀ c ∈ (Jvm.Cond.code x code maxLocals ret :: tables_1), c.before #[Value.ref b] s = true := atoms_spec (ws := Jvm.Cond.code x code maxLocals ret :: tables_1) B.pre
    have hts : ∀ w ∈ lw_tbl, w.before #[Value.ref b] s = true := k2_hts_sels lw_privs (fun w hw => hts0 w (List.mem_cons_of_mem _ hw)) lw_privs_ok
    have hml : c.maxLocals = 7 := B.maxLocals_eq (hts0 _ List.mem_cons_self)
    have X₀ : Stand p l e room_1 s m #[Value.ref b] below meth c s₁ [] 0 0 := Stand.of_body B
    have hh0 : s₁.heap = s.heap := by rw [B.state]; rfl
    have hsz : scr.slots.size = xs.length := by rw [← Array.length_toList, hlist, List.length_map]
    have hval : ∀ j : Nat, j < xs.length → scr.slots[j]? = some (.int (xs.getD j 0)) := fun j hj => by
      rw [← Array.getElem?_toList, hlist]
      simp [hj]
    have hbl : b < s.heap.size := (Array.getElem?_eq_some_iff.mp hcb).1
    have hX : va_X b xs.length (fun j => xs.getD j 0) s s.heap := ⟨scr, hcb, hof, hkn, hsz, hval⟩
    have K : W p l e room_1 s m #[Value.ref b] below meth c s₁.heap [] 0 0 (lw_Z below #[Value.ref b] s) (entryFrame m ([Value.ref b] : List Value).toArray 7) := by
      rw [hh0]
      exact whole_start own l hst hbd ⟨B.exec, B.bytes, B.returns, hml, hown, hts, hX, hbl, B.notSynchronized, hgv⟩
    obtain ⟨t, a1, o, b1, b2, b3⟩ := K s₁ rfl X₀
    exact ⟨t, o, a1, b1, b2, b3⟩
theorem lw_pre_spec {args : Array Value} {s : State} (h : (Jvm.Cond.and given_1 narrow_1).before args s = true) (hr : rest_1_c.before args s = true) : ∃ (b : Addr) (xs : List Int32), lw_P b xs args s := by
  have hs := flat_of_before _ h
  have hq := flat_of_before _ hr
  have hc : (Cond.count 1).before args s = true := hs _ (by decide +kernel)
  have harr : (Cond.arrayOf (.arg 0) .int).before args s = true := hs _ (by decide +kernel)
  have hle : (Cond.le (.length (.arg 0)) (.int 2560)).before args s = true := hs _ (by decide +kernel)
  have hlen : (Cond.isInt (.length (.arg 0))).before args s = true := hq _ (by decide +kernel)
  have hall : (Cond.all (.arg 0) (.isInt (.elem (.arg 0) (.index 0)))).before args s = true := hq _ (by decide +kernel)
  obtain ⟨b, xs, hb, hx⟩ := State.ints_of_pre rfl harr hlen hall
  have hsm : xs.length < 2 ^ 31 := hx.choose_spec.2.2.2
  have hev : (Term.length (.arg 0)).eval args s none [] s = some (.int xs.length.toInt32) := hx.length_eval hb
  have hv := Cond.le_ints hev (show (Term.int 2560).eval args s none [] s = some (.int 2560) from rfl)
  have hd : xs.length.toInt32 ≤ 2560 := by
    simpa [Cond.before, Cond.holds, hv] using hle
  have hN : xs.length ≤ 2560 := (Int32.ofNat_le_ofNat hsm (by decide)).mp (show Int32.ofNat xs.length ≤ Int32.ofNat 2560 from hd)
  exact ⟨b, xs, Cond.one_arg hc (show args[0]? = some (.ref b) from hb), hx, hN, h⟩
theorem lw_comes (own : Owed) (l : Launch) (hst : l.stackTraces = false) : Comes l x (Jvm.Cond.code x code maxLocals ret :: tables_1) room_1 (fun tb e args s => Calls_1 tb e args s ∧ rest_1 tb e args s ∧ Pre_1 tb e args s)
    (fun _ _ args s o t => lw_Q args s o t) := by
  intro p e ha hc hk s m args below hf hfit hheap happ hpre
  obtain ⟨b, xs, hP⟩ := lw_pre_spec hpre.2.2 hpre.2.1
  obtain ⟨k, o, h1, h2, h3, hQ⟩ := lw_walk own l hst b xs p e ha hc hk s m args below hf ((Spec.applies_iff_loose hf).mp happ).1 hP trivial
  exact ⟨k, o, h1, h2, h3, hQ⟩
theorem lw_frame {s t : State} {o : Outcome} {args : Array Value} (h : Framed s o t [] 601024 7293034) :
    Framed s o t (fieldLocs frame_1_writes args s ++ arrayLocs frame_1_arrays args s ++ staticLocs frame_1_statics s) 601024 7293034 := h
theorem lw_limb (own : Owed) (L : Cond) (hL : ∀ (args : Array Value) (s t : State), L.after args s (.returned (some (.int 1))) t = true) :
    ArmFor flags0 classFile x code maxLocals ret World_1 tables_1 room_1 Calls_1 rest_1 Pre_1
      (fun tb e a s o t => postC L tb e a s o t ∧ Framed s o t (fieldLocs frame_1_writes a s ++ arrayLocs frame_1_arrays a s ++ staticLocs frame_1_statics s) 601024 7293034) := by
  intro l hfl _ _ p e ha hc hk s m args below hf hfit hheap happ hpre
  obtain ⟨k, o, h1, h2, h3, rfl, hF⟩ := lw_comes own l (by unfold Launch.stackTraces; rw [hfl]; decide) p e ha hc hk s m args below hf hfit hheap happ hpre
  exact ⟨k, _, h1, h2, h3, hL args s _, lw_frame hF⟩
theorem i_vc_of (own : Owed) : Claimed_1_1 ∧ Claimed_1_2 := ⟨lw_limb own limb_1_1 (fun args s t => by simp [limb_1_1, Cond.after, Cond.holds, Cond.value]), lw_limb own limb_1_2 (fun args s t => Cond.after_iff.mpr (by
  first | (rw [show limb_1_2 = Cond.eq .result (.int 1) from rfl, Cond.eq_ints (x := 1) (y := 1) rfl rfl]; simp; done) | (simp [limb_1_2, Cond.value, Term.eval]; done)))⟩
