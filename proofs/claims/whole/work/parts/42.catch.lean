/-! METHODS WITH HANDLERS: the law's helpers -/
section CT
variable {p : Program} {l : Launch} {e : Env} {R : Room} {s : State} {m : MethodId} {args : Array Value} {below : List Frame} {meth : Method} {c : Code} {H : Heap} {locs : List Loc} {cells slots : Nat} {Q : State → Prop} {pc : Nat} {ls : Array Slot} {rest : List Value}
/-- caught by the row x of this method's table; the rows ahead don't take it -/
theorem vx_catch {own name : String} {E : String} {ce : Cell} {q : Addr} (hown : s.vm.findClass own = some m.cls) (pre : List ExceptionTableEntry) (x : ExceptionTableEntry) (suf : List ExceptionTableEntry) (hsplit : c.exceptionTable.toList = pre ++ x :: suf)
    (hpass : ∀ z ∈ pre, covers z pc = false ∨ (z.catchType ≠ 0 ∧ ∃ nm : String, (Cond.classLink own z.catchType nm).before args s = true ∧ va_Nc E nm s)) (hx : covers x pc = true) (h0 : x.catchType ≠ 0)
    (hlink : (Cond.classLink own x.catchType name).before args s = true) (hcast : (Cond.castable E name).before args s = true) (hcell : H[q]? = some ce) (hv : ce.vm = .none) (hcl : s.vm.findClass E = some ce.cls)
    (kk : W p l e R s m args below meth c H locs cells slots Q (F0 m x.handlerPc ls [.ref q])) : vx_W p l e R s m args below meth c H locs cells slots Q (F0 m pc ls rest) q := by
  intro T hT X
  have hpl : e.platform.magicAccessors = ({} : Platform).magicAccessors := by rw [X.admits.platform]
  obtain ⟨c3, c4, hc3, hc4, hasg⟩ := Cond.castable_spec hcast
  cases Option.some.inj (hc3.symm.trans hcl)
  obtain ⟨c5, hc5, hcl5⟩ := Cond.classLink_spec hown hlink e.platform hpl
  cases Option.some.inj (hc4.symm.trans hc5)
  obtain ⟨vm', X', st⟩ := Jvm.Stand.thenCaughtThrough X q (g := F0 m pc ls rest) rfl (Steps.refl _) (by rw [hT]; exact hcell) (by rw [hv]; rfl) (by obtain ⟨k9, h9, -⟩ := Vm.findClass_spec hcl; exact ⟨k9, h9⟩) pre x suf hsplit
    (fun z hz => by
      rcases hpass z hz with h | ⟨hz0, nm, hl1, hn1⟩
      · exact Or.inl h
      · obtain ⟨c6, hc6, hcl6⟩ := Cond.classLink_spec hown hl1 e.platform hpl
        obtain ⟨a8, b8, h1, h2, h3⟩ := hn1
        cases Option.some.inj (h1.symm.trans hcl)
        cases Option.some.inj (h2.symm.trans hc6)
        exact Or.inr ⟨hz0, _, hcl6, h3⟩) hx (Or.inr ⟨h0, c4, hcl5, hasg⟩)
  obtain ⟨t, a1, b1⟩ := kk (T.setVm vm') hT X'
  exact ⟨t, st.trans a1, b1⟩

end CT
/-- the method Y, which has the handlers hh, called with as in the heap h, returns r, the heap being h1 then -/
def CalW (G : Gd) (j : Nat) (Y : Yx) (hh : List (Nat × Nat × Nat × Nat)) (as : List Value) (h : Hp) (r : Option Value) (h1 : Hp) : Prop :=
  zn h ≤ zn h1 ∧ zs h ≤ zs h1 ∧ (zOK G → ∀ (l : Launch), l.stackTraces = false → ∀ (dd : Nat), j ≤ dd → Met l Y.1 [Cond.codeWith Y.1 Y.2.1 Y.2.2.1 Y.2.2.2 hh] ({ frames := dd, cells := zn h1 - zn h, slots := zs h1 - zs h, locals := 48 * dd } : Room) (zPc G as h) (zQc G r h1) (zn h1 - zn h) (zs h1 - zs h) (zA G))
section CV
variable {G : Gd} {h h1 : Hp}
theorem CalW.of {Y : Yx} {j : Nat} {as : List Value} {x : Int32} {hh : List (Nat × Nat × Nat × Nat)} (hp : plainName Y.1.cls = true) (hlen : (lg_sl as).length ≤ Y.2.2.1) (k : Ev G (Y.1.cls, Y.2.1, Y.2.2.1, false) j 0 (lv_args 0 as) [] h (Ret Y (some (.int x)) h1)) : CalW G j Y hh as h (some (.int x)) h1 := by
  obtain ⟨F, ⟨k1, k2, k3⟩, hF, hz⟩ := k
  subst hF
  refine ⟨k1, k2, fun hO l hst dd hdd => ?_⟩
  refine va_MetW (cc := Y.2.1) (maxL := Y.2.2.1) (ret := Y.2.2.2) hp rfl (fun p e s m args below meth c s₁ B hml hv => ?_)
  obtain ⟨rfl, hH, hE⟩ := hv
  rw [lg_entry_eq]
  have hl := lv_entry (as.map (zcv G)) (n := Y.2.2.1) (by rw [zlg_len]; exact hlen)
  generalize (lg_sl (as.map (zcv G)) ++ List.replicate (Y.2.2.1 - (lg_sl (as.map (zcv G))).length) Slot.unset).toArray = ls at hl ⊢
  rw [zlv_args] at hl
  have hown : s.vm.findClass Y.1.cls = some m.cls := findClass_of_methodNamed B.named
  refine k3 p l e _ s m _ below meth c s.heap [] 0 0 _ ls ⟨hO, hE, B.exec, B.bytes, hml, hown, fun q => Bool.noConfusion q, B.notSynchronized, hst⟩ hdd (Nat.mul_le_mul_left 48 hdd) (by rw [Nat.zero_add]; exact Nat.le_refl _) (by rw [Nat.zero_add]; exact Nat.le_refl _) hH va_S.rf hl ?_
  intro H1 locs1 ls1 hH1 hS1 hl1
  rw [Nat.zero_add, Nat.zero_add]
  have hlocks := B.notSynchronized
  have post : ∀ t : State, t.heap = H1 → zHR G F.2.2.2 t.heap ∧ va_F (zA G) s t := fun t ht => ⟨by rw [ht]; exact hH1, hS1.F ht⟩
  rcases hz with ⟨q1, q2, q3, q4⟩ | ⟨q1, x, ty, q2, q3, q4, q5⟩ | ⟨q1, x, q2, q3, q4⟩ | ⟨q1, v, ty, q2, q3, q4, q5, q6⟩
  · cases q3
  · rw [q2, q3]
    exact W.zret B.exec B.bytes (B.returns.trans q4) q5 (fun t ht _ => ⟨rfl, post t ht⟩) hS1.2.2 q1
  · cases q3
  · cases q3
    rcases q4 with q4 | ⟨q, q4⟩ <;> cases q4
theorem CalW.caught {Y Y1 : Yx} {j j1 pc x n b n9 i9 : Nat} {k9 : Int} {v9 : Int32} {as as1 st0 : List Value} {h2 : Hp} {E name : String} {hh pre suf : List (Nat × Nat × Nat × Nat)} {row : Nat × Nat × Nat × Nat}
    (hp : plainName Y.1.cls = true) (hlen : (lg_sl as).length ≤ Y.2.2.1) (hw : Cond.codeWith Y.1 Y.2.1 Y.2.2.1 Y.2.2.2 hh ∈ lw_tbl) (hret : Y.2.2.2 = some .int)
    (k : Ev G (Y.1.cls, Y.2.1, Y.2.2.1, false) j 0 (lv_args 0 as) [] h (fun F => F.1 = pc ∧ F.2.2.1 = as1.reverse ++ zrf b :: st0 ∧ F.2.2.2 = h2))
    (hd : decode Y.2.1 pc = .ok (.invokevirtual x, 3)) (hY : Yk Y1 n) (hI : Cond.instanceMethod Y1.1 ∈ lw_tbl) (hS : Cond.selects (kR 11) Y1.1 Y1.1 ∈ lw_tbl) (hlk : Cond.methodLink Y.1.cls x Y1.1 ∈ lw_tbl) (ho : isO h2 b 11) (hn : as1.length = n) (hst : (st0.map fun v => v.category).sum ≤ 8) (hj : j1 + 1 ≤ j)
    (hC : CalX G j1 Y1 (zrf b :: as1) h2 E h1)
    (hsplit : hh = pre ++ row :: suf) (hpass : ∀ z ∈ pre, z.2.2.2 ≠ 0 ∧ ∃ nm : String, Cond.classLink Y.1.cls z.2.2.2 nm ∈ lw_tbl ∧ Cond.not (.castable E nm) ∈ flatC (Jvm.Cond.and given_1 narrow_1))
    (hcov : covers { startPc := row.1, endPc := row.2.1, handlerPc := row.2.2.1, catchType := row.2.2.2 } pc = true) (h0 : row.2.2.2 ≠ 0) (hlink : Cond.classLink Y.1.cls row.2.2.2 name ∈ lw_tbl) (hcast : Cond.castable E name ∈ lw_tbl)
    (d0 : (n9 = 2 ∧ decode Y.2.1 row.2.2.1 = .ok (.astore i9, 2)) ∨ (n9 = 1 ∧ ∃ j9 : Fin 4, (j9 : Nat) = i9 ∧ decode Y.2.1 row.2.2.1 = .ok (.astore_n j9, 1))) (hi9 : i9 < Y.2.2.1)
    (d1 : decode Y.2.1 (row.2.2.1 + n9) = .ok (.iconst k9, 1)) (hv9 : Int32.ofInt k9 = v9) (d2 : decode Y.2.1 (row.2.2.1 + n9 + 1) = .ok (.ireturn, 1)) (hnar : narrow .int (.int v9) = .int v9) : CalW G j Y hh as h (some (.int v9)) h1 := by
  obtain ⟨F, ⟨k1, k2, k3⟩, rfl, hz1, rfl⟩ := k
  have c1 := hC.1
  have c2 := hC.2.1
  refine ⟨by omega, by omega, fun hO l hst9 dd hdd => ?_⟩
  refine va_MetW (cc := Y.2.1) (maxL := Y.2.2.1) (ret := Y.2.2.2) hp rfl (fun p e s m args below meth c s₁ B hml hv => ?_)
  obtain ⟨rfl, hH, hE⟩ := hv
  have htab : c.exceptionTable.toList = tableOf hh := vx_table (x := Y.1) B (hE.word hO hw rfl)
  rw [lg_entry_eq]
  have hl := lv_entry (as.map (zcv G)) (n := Y.2.2.1) (by rw [zlg_len]; exact hlen)
  generalize (lg_sl (as.map (zcv G)) ++ List.replicate (Y.2.2.1 - (lg_sl (as.map (zcv G))).length) Slot.unset).toArray = ls at hl ⊢
  rw [zlv_args] at hl
  have hown : s.vm.findClass Y.1.cls = some m.cls := findClass_of_methodNamed B.named
  refine k3 p l e _ s m _ below meth c s.heap [] 0 0 _ ls ⟨hO, hE, B.exec, B.bytes, hml, hown, fun q => Bool.noConfusion q, B.notSynchronized, hst9⟩ hdd (Nat.mul_le_mul_left 48 hdd) (by show 0 + _ ≤ zn h1 - zn h; omega) (by show 0 + _ ≤ zs h1 - zs h; omega) hH va_S.rf hl ?_
  intro H1 locs1 ls1 hH1 hS1 hl1
  rw [hz1]
  have hb8 : b ≠ 0 := by have := ho.1; omega
  rw [zrf_pos hb8] at hC ⊢
  obtain ⟨cell, q1, q2, q3, -⟩ := hH1.obj ho (by decide)
  have run := vx_runV (args := (as.map (zcv G)).toArray) (Ts := []) (own := Y.1.cls) (C := kR 11) (b := zad G b) (As := as1.map (zcv G)) (rest := st0.map (zcv G)) (g := F0 m F.1 ls1 ((as1.reverse ++ .ref b :: st0).map (zcv G))) (locs := locs1) (cells := 0 + (zn F.2.2.2 - zn h)) (slots := 0 + (zs F.2.2.2 - zs h)) (e := e) (below := below) (meth := meth) (R := (headSpec [Cond.codeWith Y.1 Y.2.1 Y.2.2.1 Y.2.2.2 hh] ({ frames := dd, cells := zn h1 - zn h, slots := zs h1 - zs h, locals := 48 * dd } : Room)).room) ⟨B.exec, B.bytes, hml, hown, fun w hw => by cases hw⟩ (hC.2.2 hO l hst9 j1 (Nat.le_refl j1))
    ⟨zCallB (M := (Y.1.cls, Y.2.1, Y.2.2.1, false)) (n := n) (d := j) hY hO hE hlk hj hdd (Nat.mul_le_mul_left 48 hdd) _ _, hE.word hO hI rfl, hE.word hO hS rfl⟩
    ⟨zPc_blind, ⟨cell, q1, by rw [q3]; rfl, by rw [q2]; exact (hE.known hO (by decide)).2.1⟩, fun U hU hW => ⟨rfl, by rw [hU]; exact hH1, hE.on hS1 hU hW⟩⟩
    rfl (by rw [List.length_map]; exact hn) hl1.1 (zrev as1 st0 _) (zroom hst) hd ⟨by show 0 + _ + _ ≤ zn h1 - zn h; omega, by show 0 + _ + _ ≤ zs h1 - zs h; omega⟩
  intro T hT X
  rcases run T hT X with ⟨v, st₀, t, T', L, h0', X', hL, e1, e2, hF, st⟩ | ⟨q, st₀, t, T', L, E', ce, h0', X', hL, e1, e2, ⟨rfl, hHx, hFx⟩, hce, hcv, hcl, st⟩
  · exact hF.elim
  · have hNc : ∀ nm : String, Cond.not (.castable E' nm) ∈ flatC (Jvm.Cond.and given_1 narrow_1) → va_Nc E' nm s := fun nm hm => by
      obtain ⟨-, -, -, -, a0, g1, g2, -⟩ := hO
      exact va_Nc.moved hE.1.alike (va_Nc.of (flat_of_before _ g1 _ hm))
    have hkp : va_S (zA G) s.heap T'.heap (locs1 ++ L) := by
      refine ⟨?_, ?_, ?_⟩
      · rw [e1]
        exact Nat.le_trans hS1.1 (by rw [← h0']; exact hFx.1)
      · intro q g1 g2
        rw [e1, hFx.2 q (by rw [h0']; exact Nat.lt_of_lt_of_le g1 hS1.1) g2, h0']
        exact hS1.2.1 q g1 g2
      · intro q hq
        rcases List.mem_append.mp hq with g | g
        · exact hS1.2.2 q g
        · exact hL q g
    have hlocks := B.notSynchronized
    have hH9 : zHR G h1 T'.heap := by rw [e1]; exact hHx
    have a9 : 0 + (zn F.2.2.2 - zn h) + (zn h1 - zn F.2.2.2) = zn h1 - zn h := by omega
    have b9 : 0 + (zs F.2.2.2 - zs h) + (zs h1 - zs F.2.2.2) = zs h1 - zs h := by omega
    rw [a9, b9] at X'
    have fin : ∀ ls2 : Array Slot, W p l e (headSpec [Cond.codeWith Y.1 Y.2.1 Y.2.2.1 Y.2.2.2 hh] ({ frames := dd, cells := zn h1 - zn h, slots := zs h1 - zs h, locals := 48 * dd } : Room)).room s m (as.map (zcv G)).toArray below meth c T'.heap (locs1 ++ L) (zn h1 - zn h) (zs h1 - zs h) (MQ below (zQc G (some (.int v9)) h1) (as.map (zcv G)).toArray s (zn h1 - zn h) (zs h1 - zs h) (zA G)) (F0 m (row.2.2.1 + n9) ls2 []) := fun ls2 =>
      lv_iconst B.exec B.bytes d1 hv9 (W.zret B.exec B.bytes (B.returns.trans hret) hnar (fun t ht _ => ⟨rfl, by rw [ht]; exact hH9, hkp.F ht⟩) hkp.2.2 d2)
    have cat := vx_catch (p := p) (l := l) (e := e) (R := (headSpec [Cond.codeWith Y.1 Y.2.1 Y.2.2.1 Y.2.2.2 hh] ({ frames := dd, cells := zn h1 - zn h, slots := zs h1 - zs h, locals := 48 * dd } : Room)).room) (args := (as.map (zcv G)).toArray) (below := below) (meth := meth) (locs := locs1 ++ L) (cells := zn h1 - zn h) (slots := zs h1 - zs h) (Q := MQ below (zQc G (some (.int v9)) h1) (as.map (zcv G)).toArray s (zn h1 - zn h) (zs h1 - zs h) (zA G)) (H := T'.heap) (ls := ls1) (pc := F.1) (rest := st0.map (zcv G)) (own := Y.1.cls) (name := name) (E := E') (ce := ce) (q := q) hown (tableOf pre) { startPc := row.1, endPc := row.2.1, handlerPc := row.2.2.1, catchType := row.2.2.2 } (tableOf suf)
      (by rw [htab, hsplit]; unfold tableOf; rw [List.map_append, List.map_cons])
      (fun z hz => by
        obtain ⟨z0, hz0, rfl⟩ := List.mem_map.mp hz
        obtain ⟨g1, nm, g2, g3⟩ := hpass z0 hz0
        exact Or.inr ⟨g1, nm, hE.word hO g2 rfl, hNc nm g3⟩)
      hcov h0 (hE.word hO hlink rfl) (hE.wordM hO hcast rfl) (by rw [e1]; exact hce) hcv hcl
      (by
        rcases d0 with ⟨rfl, d0⟩ | ⟨rfl, j9, hj9, d0⟩
        · exact lv_astore B.exec B.bytes d0 hl1 hi9 rfl (fun ls2 _ => fin ls2)
        · exact lv_astore_n B.exec B.bytes d0 hj9 hl1 hi9 rfl (fun ls2 _ => fin ls2))
    obtain ⟨t2, a1, b1⟩ := cat T' rfl X'
    exact ⟨t2, st.trans a1, b1⟩
end CV
/-- what the tables say of a method with handlers -/
def Yw (Y : Yx) (hh : List (Nat × Nat × Nat × Nat)) (n : Nat) : Prop := Cond.codeWith Y.1 Y.2.1 Y.2.2.1 Y.2.2.2 hh ∈ lw_tbl ∧ Cond.initialized Y.1.cls ∈ lw_tbl ∧ (Y.1.cls ≠ "java/lang/invoke/MethodHandle" ∧ Y.1.cls ≠ "java/lang/invoke/VarHandle") ∧ (parseMethodDescriptor Y.1.desc).map (fun q => q.parameters.length) = some n ∧ Y.2.2.1 ≤ 29
/-- a static call of such a method -/
theorem g_callW {G : Gd} {M : Mx} {d pc : Nat} {L : List (Nat × Value)} {st : List Value} {h h1 : Hp} {Z : Cf → Prop} {x n j : Nat} {Y : Yx} {hh : List (Nat × Nat × Nat × Nat)} {as st0 : List Value} {r : Option Value} (hd : decode M.2.1 pc = .ok (.invokestatic x, 3)) (hY : Yw Y hh n) (hI : Cond.static Y.1 ∈ lw_tbl) (hlk : Cond.methodLink M.1 x Y.1 ∈ lw_tbl) (hs : st0 = as.reverse ++ st) (hn : as.length = n) (hst : (st.map fun v => v.category).sum ≤ 8) (hj : j + 1 ≤ d) (hC : CalW G j Y hh as h r h1)
    (k : Ev G M d (pc + 3) L (r.toList ++ st) h1 Z) : Ev G M d pc L st0 h Z := by
  subst hs
  refine Ev.call (pc1 := pc) (j := j) hC.1 hC.2.1 k (fun p l e R s m args below meth c H locs cells slots ls B hR hRl hc1 hc2 hH hS9 hl => ⟨#[], ?_⟩)
  have e9 : (as.reverse ++ st).map (zcv G) = (as.map (zcv G)).reverse ++ st.map (zcv G) := by rw [List.map_append, List.map_reverse]
  obtain ⟨y1, y2, y3, y4, y5⟩ := hY
  have cw : vx_CSW R s args M.1 x Y.1 Y.2.1 Y.2.2.1 Y.2.2.2 hh [Cond.codeWith Y.1 Y.2.1 Y.2.2.1 Y.2.2.2 hh] ({ frames := j, cells := zn h1 - zn h, slots := zs h1 - zs h, locals := 48 * j } : Room) (zn h1 - zn h) (zs h1 - zs h) n := by
    refine ⟨⟨rfl, rfl, Nat.le_trans hj hR, ?_, fun w hw a' U hU => ?_, List.mem_cons_self⟩, B.2.1.word B.1 y1 rfl, B.2.1.word B.1 y2 rfl, y3, fun sig hs => ?_, B.2.1.word B.1 hlk rfl, B.2.1.word B.1 hI rfl⟩
    · show 8 + (Y.2.2.1 + 11) + 48 * j ≤ R.locals
      omega
    · rw [List.mem_singleton.mp hw]
      exact word_at hU (Or.inl rfl) (B.2.1.word (args := args) B.1 y1 rfl)
    · rw [hs] at y4
      exact (Option.some.inj y4).symm
  exact vx_runSW (args := args) (Ts := []) (own := M.1) (As := as.map (zcv G)) (rest := st.map (zcv G)) (g := F0 m pc ls ((as.reverse ++ st).map (zcv G))) (locs := locs) (cells := cells) (slots := slots) (e := e) (below := below) (meth := meth) ⟨B.2.2.1, B.2.2.2.1, B.2.2.2.2.1, B.2.2.2.2.2.1, fun w hw => by cases hw⟩ (hC.2.2 B.1 l B.2.2.2.2.2.2.2.2 j (Nat.le_refl j))
    cw ⟨zPc_blind, fun U hU hW => ⟨rfl, by rw [hU]; exact hH, B.2.1.on hS9 hU hW⟩⟩
    rfl (by rw [List.length_map]; exact hn) hl.1 e9 (zroom hst) hd ⟨hc1, hc2⟩
