/-! FURTHER RULES: wide constants, casts, array copies -/
section MO
variable {G : Gd} {M : Mx} {d pc : Nat} {L : List (Nat × Value)} {st : List Value} {h : Hp} {Z : Cf → Prop}
theorem g_ldcw {n : Nat} {v : Int32} (hd : decode M.2.1 pc = .ok (.ldc_w n, 3)) (hw : Jvm.Cond.constant M.1 n v ∈ lw_tbl) (k : Ev G M d (pc + 3) L (.int v :: st) h Z) : Ev G M d pc L st h Z := Ev.same k (fun p l e R s m args below meth c H locs cells slots Q ls B hH hS hl kk => lv_ldcw B.2.2.1 B.2.2.2.1 B.2.2.2.2.2.1 (B.2.1.word B.1 hw rfl) hd (kk ls hl))
theorem g_castS {x c i : Nat} (hd : decode M.2.1 pc = .ok (.checkcast x, 3)) (ho : isO h c i) (hi : i < 13) (hw : Cond.classLink M.1 x (kR i) ∈ lw_tbl) (k : Ev G M d (pc + 3) L (zrf c :: st) h Z) : Ev G M d pc L (zrf c :: st) h Z := by
  rw [zrf_pos (isO.ne ho)] at k ⊢
  refine Ev.same k (fun p l e R s m args below meth c9 H locs cells slots Q ls B hH hS hl kk => ?_)
  obtain ⟨cell, q1, q2, q3, -⟩ := hH.obj ho hi
  have hK := (B.2.1.known B.1 hi).2
  exact va_castS B.2.2.1 B.2.2.2.1 B.2.2.2.2.2.1 (B.2.1.word B.1 hw rfl) hK ⟨cell, q1, by rw [q3]; rfl, by rw [q2]; exact hK.1⟩ hd (kk ls hl)
/-- System.arraycopy over arrays of numbers -/
def pC (h : Hp) (src sp dst dp n : Nat) : Hp := (h.1, h.2.1, h.2.2.1, zI h, va_up (zE h) dst (va_cpy (zE h src) (zE h dst) sp dp n), zR h, zQ h, zJ h, zX h)
theorem zHR.all {H H1 : Heap} {a t : Nat} (hH : zHR G h H) (ho : isO h a t) (h1 : 20 ≤ t) (h2 : t < 30) {h9 : Hp} (hn : zn h9 = zn h) (hT : zT h9 = zT h) (hL : zL h9 = zL h) (hf : ∀ r k, zfv h9 k r = zfv h k r) (he : ∀ r, r ≠ a → ∀ u k, zev h9 u r k = zev h u r k)
    (e : H1[zad G a]? = some (arrV (gY G t) (zL h a) (fun j => zcv G (zev h9 t a j)))) (z : H1.size = H.size) (oq : ∀ q, q ≠ zad G a → H1[q]? = H[q]?) : zHR G h9 H1 := by
  refine hH.upd hn hT hL ho.1 ho.2.1 z oq (fun r _ k => hf r k) he ?_
  refine Or.inr (Or.inl ⟨by rw [hT, ho.2.2]; exact ⟨h1, h2⟩, ?_⟩)
  rw [e, hT, hL, ho.2.2]
theorem g_copy {x src dst t : Nat} {sp dp n : Int32} (hd : decode M.2.1 pc = .ok (.invokestatic x, 3)) (hlk : Cond.methodLink M.1 x arraycopyName ∈ lw_tbl) (h1 : 1 ≤ d) (hst : (st.map fun v => v.category).sum ≤ 8) (ho0 : isO h src t) (ho1 : isO h dst t) (ht1 : 20 ≤ t) (ht2 : t < 24)
    (hr : (¬ sp < 0 ∧ ¬ dp < 0 ∧ ¬ n < 0) ∧ sp.toNatClampNeg + n.toNatClampNeg ≤ zL h src ∧ dp.toNatClampNeg + n.toNatClampNeg ≤ zL h dst) (hfit : ∀ i, i < n.toNatClampNeg → fits (kA t) (.int (zE h src (sp.toNatClampNeg + i))) = true)
    (k : Ev G M d (pc + 3) L st (pC h src sp.toNatClampNeg dst dp.toNatClampNeg n.toNatClampNeg) Z) : Ev G M d pc L (.int n :: .int dp :: zrf dst :: .int sp :: zrf src :: st) h Z := by
  obtain ⟨⟨h91, h92, h93⟩, h94, h95⟩ := hr
  rw [zrf_pos (isO.ne ho0), zrf_pos (isO.ne ho1)]
  obtain ⟨F, ⟨k1, k2, k3⟩, hz⟩ := k
  refine ⟨F, ⟨k1, k2, ?_⟩, hz⟩
  intro p l e R s m args below meth c H locs cells slots Q ls B hd9 hlo hc hs hH hS hl kk
  have nn : ∀ z : Int32, ¬ z < 0 → z.toInt = (z.toNatClampNeg : Int) := by
    intro z hz
    have hz0 : (0 : Int) ≤ z.toInt := by
      have := Int32.not_lt.mp hz
      simpa using Int32.le_iff_toInt_le.mp this
    show z.toInt = ((z.toInt.toNat : Nat) : Int)
    omega
  have e9 : ((st.map (zcv G)).map fun v => v.category) = st.map fun v => v.category := by
    rw [List.map_map]
    exact List.map_congr_left (fun v _ => zcv_cat G v)
  have hz24 : ∀ (g : Hp) (a j : Nat), zcv G (zev g t a j) = .int (zE g a j) := fun g a j => by unfold zev; rw [if_pos ht2]; rfl
  have hc0 := hH.arr ho0 ht1 (by omega)
  have hc1 := hH.arr ho1 ht1 (by omega)
  have hprim : refKind (kA t) = false := by
    rcases (show t = 20 ∨ t = 21 ∨ t = 22 ∨ t = 23 by omega) with q | q | q | q <;> rw [q] <;> rfl
  intro T hT X
  obtain ⟨-, k0, hk0, cm0, hkk0⟩ := zarrS (n := zL h src) (f := fun j => zcv G (zev h t src j)) B.1 B.2.1 ht1 (show t < 30 by omega)
  obtain ⟨-, k19, hk1, cm1, hkk1⟩ := zarrS (n := zL h dst) (f := fun j => zcv G (zev h t dst j)) B.1 B.2.1 ht1 (show t < 30 by omega)
  obtain ⟨vm', X', step⟩ := X.arraycopy B.2.2.1 B.2.2.2.2.2.1 (B.2.1.word B.1 hlk rfl) (B.2.1.word B.1 (by decide +kernel) rfl) (B.2.1.word B.1 (by decide +kernel) rfl) (B.2.1.word B.1 (by decide +kernel) rfl) (src := zad G src) (dst := zad G dst) (cs := arrV (gY G t) (zL h src) (fun j => zcv G (zev h t src j))) (cd := arrV (gY G t) (zL h dst) (fun j => zcv G (zev h t dst j))) (srcPos := sp) (destPos := dp) (n := n) (by rw [hT]; exact hc0) (by rw [hT]; exact hc1)
    (fun _ h => by cases h) (fun _ h => by cases h) (fun h => by cases h) (fun h => by cases h) hk0 hk1 hkk0 hkk1 (by simp [hprim]) h91 h92 h93
    (by rw [nn sp h91, nn n h93, arrV_size]; omega)
    (by rw [nn dp h92, nn n h93, arrV_size]; omega)
    (fun vm₁ _ i hi => by
      have e : (arrV (gY G t) (zL h src) (fun j => zcv G (zev h t src j))).slots.getD (sp.toNatClampNeg + i) .null = .int (zE h src (sp.toNatClampNeg + i)) := by
        rw [Array.getD_eq_getD_getElem?, arrV_read _ _ (by omega), hz24]
        rfl
      refine ⟨?_, ?_⟩
      · rw [e]
        exact hfit i hi
      · rw [e]
        exact trivial)
    (g := F0 m pc ls (.int n :: .int dp :: .ref (zad G dst) :: .int sp :: .ref (zad G src) :: st.map (zcv G))) rfl (by rw [B.2.2.2.2.1]; exact hl.1) (rest := st.map (zcv G)) rfl (by rw [B.2.2.2.1]; exact hd) (by omega) (by
      show 2 * 0 + _ + (nativeFrameWords "java/lang/System" "arraycopy" 5 + 11) ≤ R.locals
      rw [e9]
      have : nativeFrameWords "java/lang/System" "arraycopy" 5 + 11 ≤ 40 := by decide +kernel
      omega)
  have e1 : copied (arrV (gY G t) (zL h src) (fun j => zcv G (zev h t src j))) (arrV (gY G t) (zL h dst) (fun j => zcv G (zev h t dst j))) sp dp n = arrV (gY G t) (zL h dst) (fun j => .int (va_cpy (zE h src) (zE h dst) sp.toNatClampNeg dp.toNatClampNeg n.toNatClampNeg j)) := by
    have q1 : (fun j => zcv G (zev h t src j)) = fun j => .int (zE h src j) := funext (hz24 h src)
    have q2 : (fun j => zcv G (zev h t dst j)) = fun j => .int (zE h dst j) := funext (hz24 h dst)
    rw [q1, q2]
    exact va_copied (fun z => .int z) _ _ (zE h src) (zE h dst) h94
  rw [e1] at X' step
  have hlt : zad G dst < H.size := zad_lt hH ho1.1 ho1.2.1
  generalize hcell : arrV (gY G t) (zL h dst) (fun j => Value.int (va_cpy (zE h src) (zE h dst) sp.toNatClampNeg dp.toNatClampNeg n.toNatClampNeg j)) = cell at X' step
  have oq : ∀ q : Nat, q ≠ zad G dst → (H.setIfInBounds (zad G dst) cell)[q]? = H[q]? := fun q hq => by simp [Array.getElem?_setIfInBounds, Ne.symm hq]
  have hH9 : zHR G (pC h src sp.toNatClampNeg dst dp.toNatClampNeg n.toNatClampNeg) (H.setIfInBounds (zad G dst) cell) := by
    refine hH.all ho1 ht1 (by omega) rfl rfl rfl (fun r k => rfl) (fun r hr u k => ?_) ?_ (by simp) oq
    · unfold zev
      have e2 : zE (pC h src sp.toNatClampNeg dst dp.toNatClampNeg n.toNatClampNeg) r = zE h r := va_up_ne _ _ hr
      rw [e2]
      rfl
    · have e3 : (H.setIfInBounds (zad G dst) cell)[zad G dst]? = some cell := by simp [Array.getElem?_setIfInBounds, hlt]
      rw [e3, ← hcell]
      congr 2
      funext j
      rw [hz24]
      have e4 : zE (pC h src sp.toNatClampNeg dst dp.toNatClampNeg n.toNatClampNeg) dst = va_cpy (zE h src) (zE h dst) sp.toNatClampNeg dp.toNatClampNeg n.toNatClampNeg := va_up_self _ _ _
      rw [e4]
  have hheap : ((T.setVm vm').setCell (zad G dst) cell).heap = H.setIfInBounds (zad G dst) cell := by rw [← hT]; rfl
  obtain ⟨t9, a1, b1⟩ := k3 p l e R s m args below meth c _ _ cells slots Q ls B hd9 hlo hc hs hH9 ⟨by simp; exact hS.1, fun q g1 g2 => by
      rw [oq q (fun e => g2 (by rw [e]; exact zad_A ho1.1))]
      exact hS.2.1 q g1 g2, fun q hq => by
      rcases List.mem_append.mp hq with h | h
      · exact hS.2.2 q h
      · obtain ⟨z, -, hz⟩ := List.mem_map.mp h
        rw [← hz]
        exact zad_A ho1.1⟩ hl kk _ hheap X'
  exact ⟨t9, step t9 a1, b1⟩
end MO
/-! what is known of a thing stays behind a write -/
theorem tO_pI {h : Hp} {c t : Nat} {f b : Nat} {v : Int32} (ho : isO h c t) : isO (pI h f b v) c t := ho
theorem tR_pI {h : Hp} {c : Nat} {i : Int32} {f b : Nat} {v : Int32} (ho : inR i (zL h c)) : inR i (zL (pI h f b v) c) := ho
theorem t8_pI {h : Hp} {f b : Nat} {v : Int32} (ho : 8 ≤ zn h) : 8 ≤ zn (pI h f b v) := ho
theorem tO_pJ {h : Hp} {c t : Nat} {f b : Nat} {v : Int64} (ho : isO h c t) : isO (pJ h f b v) c t := ho
theorem tR_pJ {h : Hp} {c : Nat} {i : Int32} {f b : Nat} {v : Int64} (ho : inR i (zL h c)) : inR i (zL (pJ h f b v) c) := ho
theorem t8_pJ {h : Hp} {f b : Nat} {v : Int64} (ho : 8 ≤ zn h) : 8 ≤ zn (pJ h f b v) := ho
theorem tO_pR {h : Hp} {c t : Nat} {f b v : Nat} (ho : isO h c t) : isO (pR h f b v) c t := ho
theorem tR_pR {h : Hp} {c : Nat} {i : Int32} {f b v : Nat} (ho : inR i (zL h c)) : inR i (zL (pR h f b v) c) := ho
theorem t8_pR {h : Hp} {f b v : Nat} (ho : 8 ≤ zn h) : 8 ≤ zn (pR h f b v) := ho
theorem tO_pE {h : Hp} {c t : Nat} {b j : Nat} {v : Int32} (ho : isO h c t) : isO (pE h b j v) c t := ho
theorem tR_pE {h : Hp} {c : Nat} {i : Int32} {b j : Nat} {v : Int32} (ho : inR i (zL h c)) : inR i (zL (pE h b j v) c) := ho
theorem t8_pE {h : Hp} {b j : Nat} {v : Int32} (ho : 8 ≤ zn h) : 8 ≤ zn (pE h b j v) := ho
theorem tO_pQ {h : Hp} {c t : Nat} {b j v : Nat} (ho : isO h c t) : isO (pQ h b j v) c t := ho
theorem tR_pQ {h : Hp} {c : Nat} {i : Int32} {b j v : Nat} (ho : inR i (zL h c)) : inR i (zL (pQ h b j v) c) := ho
theorem t8_pQ {h : Hp} {b j v : Nat} (ho : 8 ≤ zn h) : 8 ≤ zn (pQ h b j v) := ho
theorem tO_pX {h : Hp} {c t : Nat} {b j : Nat} {v : Int64} (ho : isO h c t) : isO (pX h b j v) c t := ho
theorem tR_pX {h : Hp} {c : Nat} {i : Int32} {b j : Nat} {v : Int64} (ho : inR i (zL h c)) : inR i (zL (pX h b j v) c) := ho
theorem t8_pX {h : Hp} {b j : Nat} {v : Int64} (ho : 8 ≤ zn h) : 8 ≤ zn (pX h b j v) := ho
theorem tO_pC {h : Hp} {c t : Nat} {s1 s2 s3 s4 s5 : Nat} (ho : isO h c t) : isO (pC h s1 s2 s3 s4 s5) c t := ho
theorem tR_pC {h : Hp} {c : Nat} {i : Int32} {s1 s2 s3 s4 s5 : Nat} (ho : inR i (zL h c)) : inR i (zL (pC h s1 s2 s3 s4 s5) c) := ho
theorem t8_pC {h : Hp} {s1 s2 s3 s4 s5 : Nat} (ho : 8 ≤ zn h) : 8 ≤ zn (pC h s1 s2 s3 s4 s5) := ho
theorem tO_pN {h : Hp} {c t a n : Nat} (ho : isO h c t) : isO (pN h a n) c t := ⟨ho.1, Nat.lt_succ_of_lt ho.2.1, (va_up_ne _ _ (Nat.ne_of_lt ho.2.1)).trans ho.2.2⟩
theorem t8_pN {h : Hp} {a n : Nat} (ho : 8 ≤ zn h) : 8 ≤ zn (pN h a n) := Nat.le_succ_of_le ho
