/-! THE RULES OF FIELDS AND ARRAYS -/
/-- the thing a is there, of kind t -/
abbrev isO (h : Hp) (a t : Nat) : Prop := 8 ≤ a ∧ a < zn h ∧ zT h a = t
section CL
variable {G : Gd} {M : Mx} {d pc : Nat} {L : List (Nat × Value)} {st : List Value} {h h1 : Hp} {Z : Cf → Prop} {H H1 : Heap} {a t : Nat}
theorem zHR.obj (hH : zHR G h H) (ho : isO h a t) (ht : t < 13) : t_OB (zad G a) (gC G t) (kN t) (gI G t) H (fun k => zcv G (zfv h (100 * t + k) a)) := by
  obtain ⟨h8, hn, rfl⟩ := ho
  rcases hH.2.2 a h8 hn with ⟨-, q⟩ | ⟨⟨q, -⟩, -⟩ | q
  · exact q
  · omega
  · omega
theorem zHR.arr (hH : zHR G h H) (ho : isO h a t) (h1 : 20 ≤ t) (h2 : t < 30) : H[zad G a]? = some (arrV (gY G t) (zL h a) (fun j => zcv G (zev h t a j))) := by
  obtain ⟨h8, hn, rfl⟩ := ho
  rcases hH.2.2 a h8 hn with ⟨q, -⟩ | ⟨-, q⟩ | q
  · omega
  · exact q
  · omega
theorem zAt.kept (hA : zAt G h H a) (hT : zT h1 a = zT h a) (hL : zL h1 a = zL h a) (hf : ∀ k, zfv h1 k a = zfv h k a) (he : ∀ u k, zev h1 u a k = zev h u a k) (hq : H1[zad G a]? = H[zad G a]?) : zAt G h1 H1 a := by
  unfold zAt at hA ⊢
  rw [hT, hL]
  rcases hA with ⟨q, r⟩ | ⟨q, r⟩ | q
  · exact Or.inl ⟨q, (r.kept hq).to (fun k _ => by rw [hf])⟩
  · refine Or.inr (Or.inl ⟨q, ?_⟩)
    rw [hq, r]
    congr 2
    funext j
    rw [he]
  · exact Or.inr (Or.inr q)
theorem zHR.upd (hH : zHR G h H) (hn : zn h1 = zn h) (hT : zT h1 = zT h) (hL : zL h1 = zL h) (h8 : 8 ≤ a) (ha : a < zn h) (hz : H1.size = H.size) (oq : ∀ q, q ≠ zad G a → H1[q]? = H[q]?) (hf : ∀ r, r ≠ a → ∀ k, zfv h1 k r = zfv h k r) (he : ∀ r, r ≠ a → ∀ u k, zev h1 u r k = zev h u r k) (hat : zAt G h1 H1 a) : zHR G h1 H1 := by
  refine ⟨by rw [hn]; exact hH.1, by rw [hz, hn]; exact hH.2.1, fun r r8 rn => ?_⟩
  by_cases hr : r = a
  · rw [hr]; exact hat
  · exact (hH.2.2 r r8 (by rw [← hn]; exact rn)).kept (by rw [hT]) (by rw [hL]) (hf r hr) (he r hr) (oq _ (fun q => hr (zad_inj r8 h8 q)))
theorem up2_self {α : Type} (f : Nat → Nat → α) (a b : Nat) (v : α) : up2 f a b v a b = v := by simp [up2]
theorem up2_ne {α : Type} (f : Nat → Nat → α) {a b x y : Nat} (v : α) (hq : ¬ (x = a ∧ y = b)) : up2 f a b v x y = f x y := by simp only [up2, if_neg hq]
/-- a field is read -/
theorem r_get {f i : Nat} {v : Value} (hd : decode M.2.1 pc = .ok (.getfield i, 3)) (ho : isO h a (f / 100)) (hc : f / 100 < 13) (hk : f % 100 < kN (f / 100)) (hw : Cond.fieldLink M.1 i (kT (f / 100) (f % 100)).1 (kT (f / 100) (f % 100)).2.1 (kT (f / 100) (f % 100)).2.2.1 ∈ lw_tbl) (hv : zfv h f a = v) (k : Ev G M d (pc + 3) L (v :: st) h Z) : Ev G M d pc L (.ref a :: st) h Z := by
  refine Ev.same k (fun p l e R s m args below meth c H locs cells slots Q ls B hH hS hl kk => ?_)
  obtain ⟨cell, q1, q2, q3, q4⟩ := hH.obj ho hc
  obtain ⟨hSl, hfc, kC, hkC, hkind⟩ := B.2.1.known B.1 hc
  obtain ⟨cf, kf', fi, fd, hi, hsl⟩ := hSl _ hk
  refine W.getf B.2.2.1 B.2.2.2.1 B.2.2.2.2.2.1 (B.2.1.word B.1 hw rfl) hi (u_facts (args := args) hfc hkC (u_lays (B.2.1.lay B.1 hc) (fun _ h => h) hk) hi).1 q1 (by rw [q3]; exact fun h => by cases h) (v := zcv G v) ?_ rfl rfl hd (kk ls hl)
  rw [hsl, q4 _ hk]
  show some (zcv G (zfv h (100 * (f / 100) + f % 100) a)) = _
  rw [show 100 * (f / 100) + f % 100 = f by omega, hv]
/-- a field is written: what the field's type asks of the value -/
def zfit (f : Nat) (G : Gd) (v : Value) : Prop := narrow (kt (f / 100) (f % 100)) (zcv G v) = zcv G v ∧ fits (kt (f / 100) (f % 100)) (zcv G v) = true
theorem r_put {f i : Nat} {v : Value} (hd : decode M.2.1 pc = .ok (.putfield i, 3)) (ho : isO h a (f / 100)) (hc : f / 100 < 13) (hk : f % 100 < kN (f / 100)) (hw : Cond.fieldLink M.1 i (kT (f / 100) (f % 100)).1 (kT (f / 100) (f % 100)).2.1 (kT (f / 100) (f % 100)).2.2.1 ∈ lw_tbl)
    (hfin : (kT (f / 100) (f % 100)).2.2.2 = false ∨ (M.2.2.2 = true ∧ (kT (f / 100) (f % 100)).1 = M.1)) (hfit : ∀ G, zfit f G v)
    (hn : zn h1 = zn h) (hsn : zs h1 = zs h) (hT : zT h1 = zT h) (hL : zL h1 = zL h) (hf : ∀ r, r ≠ a → ∀ g, zfv h1 g r = zfv h g r) (he : ∀ r u j, zev h1 u r j = zev h u r j) (hfv : ∀ j, j < kN (f / 100) → zfv h1 (100 * (f / 100) + j) a = if j = f % 100 then v else zfv h (100 * (f / 100) + j) a)
    (k : Ev G M d (pc + 3) L st h1 Z) : Ev G M d pc L (v :: .ref a :: st) h Z := by
  refine Ev.write hn hsn k (fun p l e R s m args below meth c H locs cells slots Q ls B hH hS hl kk => ?_)
  have hlay := B.2.1.lay (args := args) B.1 hc
  have hK := B.2.1.known B.1 hc
  have hap : ∀ x y, x < kN (f / 100) → y < kN (f / 100) → x ≠ y → gI G (f / 100) x ≠ gI G (f / 100) y := by
    intro x y hx hy hne
    obtain ⟨_, _, _, fa, hia, ea⟩ := hK.1 x hx
    obtain ⟨_, _, _, fb, hib, eb⟩ := hK.1 y hy
    rw [← ea, ← eb]
    refine u_apart (u_lays hlay (fun _ h => h) hx) (u_lays hlay (fun _ h => h) hy) hia hib ?_
    rw [(State.fieldFound?_type hia (k_ty _ hc x hx)).1, (State.fieldFound?_type hib (k_ty _ hc y hy)).1]
    exact k_nm _ hc x hx y hy hne
  obtain ⟨cell, q1, q2, q3, q4⟩ := hH.obj ho hc
  obtain ⟨hSl, hfc, kC, hkC, hkind⟩ := hK
  obtain ⟨cf, kf', fi, fd, hi, hsl⟩ := hSl _ hk
  have hst := (u_facts (args := args) hfc hkC (u_lays hlay (fun _ h => h) hk) hi).1
  have hlt : fd.slot < cell.slots.size := by rw [hsl]; exact k2_hasslot (q4 _ hk)
  have hlw := B.2.1.word (args := args) B.1 hw rfl
  have fin : ∀ H' : Heap, H'[zad G a]? = some (cell.setSlot fd.slot (zcv G v)) → H'.size = H.size → (∀ q, q ≠ zad G a → H'[q]? = H[q]?) → W p l e R s m args below meth c H' (locs ++ [⟨zad G a, fd.slot⟩]) cells slots Q (F0 m (pc + 3) ls (st.map (zcv G))) := by
    intro H' e1 e2 e3
    refine kk H' _ (hH.upd hn hT hL ho.1 ho.2.1 e2 e3 hf (fun r _ u j => he r u j) ?_) (hS.put e2 e3 (zad_A ho.1))
    refine Or.inl ⟨by rw [hT, ho.2.2]; exact hc, ?_⟩
    rw [hT, ho.2.2]
    refine ⟨_, e1, q2, q3, fun j hj => ?_⟩
    rw [hsl, t_set q4 hap hk (zcv G v) j hj]
    show some (updV (fun k => zcv G (zfv h (100 * (f / 100) + k) a)) (f % 100) (zcv G v) j) = some (zcv G (zfv h1 (100 * (f / 100) + j) a))
    rw [hfv j hj]
    unfold updV
    by_cases hjk : j = f % 100
    · rw [if_pos hjk, if_pos hjk]
    · rw [if_neg hjk, if_neg hjk]
  by_cases hb : (kT (f / 100) (f % 100)).2.2.2 = false
  · have hlw2 := hlay _ (u_in_lay hk)
    unfold u_lay at hlw2
    rw [if_neg (by rw [hb]; decide)] at hlw2
    have h6 := u_store hfc hkC hkind hlw2 hi (k_ty _ hc _ hk) (hfit G).1 (hfit G).2
    exact W.putK B.2.2.1 B.2.2.2.1 (f := fd) ⟨B.2.2.2.2.2.1, hlw, ⟨_, _, _, hi⟩, hst⟩ (by rw [q2]; exact h6) q1 q3 hlt rfl rfl hd fin
  · have hbt : (kT (f / 100) (f % 100)).2.2.2 = true := by cases hx : (kT (f / 100) (f % 100)).2.2.2 with
      | true => rfl
      | false => exact absurd hx hb
    obtain ⟨hin, hdecl⟩ := hfin.resolve_left hb
    have hlw2 := hlay _ (u_in_lay hk)
    unfold u_lay at hlw2
    rw [if_pos hbt] at hlw2
    have hcf : m.cls = cf := by
      obtain ⟨_, _, c', _, _, _, -, -, hf', -, -, -, hown2, -⟩ := Cond.laysFinal_spec hlw2
      have e1 : c' = cf := by have := hi.symm.trans hf'; simp at this; exact this.1.symm
      rw [hdecl] at hown2
      rw [← e1]; exact Option.some.inj (B.2.2.2.2.2.1.symm.trans hown2)
    have h6 := u_fits hfc hkC hkind (Or.inr hlw2) hi (k_ty _ hc _ hk) (hfit G).1 (hfit G).2
    exact W.putFinK B.2.2.1 B.2.2.2.1 B.2.2.2.2.2.1 hlw hi hst hcf (B.2.2.2.2.2.2.1 hin) (by rw [q2]; exact h6) q1 q3 hlt rfl rfl hd fin
/-- a new object of class i -/
theorem zAt_new {n : Nat} (hH : zHR G h H) (o1 : ∀ q, q < H.size → H1[q]? = H[q]?) {r : Nat} (h8 : 8 ≤ r) (hr : r < zn h) : zAt G (pN h t n) H1 r := by
  have hne : ¬ r = zn h := by omega
  refine (hH.2.2 r h8 hr).kept ?_ ?_ (fun k => ?_) (fun u k => ?_) (o1 _ (zad_lt hH h8 hr))
  · show va_up (zT h) (zn h) t r = _
    rw [va_up_ne _ _ hne]
  · show va_up (zL h) (zn h) n r = _
    rw [va_up_ne _ _ hne]
  · unfold zfv
    have e1 : zI (pN h t n) k r = zI h k r := if_neg hne
    have e2 : zJ (pN h t n) k r = zJ h k r := if_neg hne
    have e3 : zR (pN h t n) k r = zR h k r := if_neg hne
    rw [e1, e2, e3]
  · unfold zev
    have e1 : zE (pN h t n) r = zE h r := va_up_ne _ _ hne
    have e2 : zX (pN h t n) r = zX h r := va_up_ne _ _ hne
    have e3 : zQ (pN h t n) r = zQ h r := va_up_ne _ _ hne
    rw [e1, e2, e3]
theorem zHR_new {n : Nat} (hH : zHR G h H) (o1 : ∀ q, q < H.size → H1[q]? = H[q]?) (hz : H1.size = H.size + 1) (hat : zAt G (pN h t n) H1 (zn h)) : zHR G (pN h t n) H1 := by
  have e : zn (pN h t n) = zn h + 1 := rfl
  refine ⟨by rw [e]; exact Nat.le_succ_of_le hH.1, by rw [hz, hH.2.1, e]; have := hH.1; omega, fun r h8 hr => ?_⟩
  rw [e] at hr
  by_cases hq : r = zn h
  · rw [hq]; exact hat
  · exact zAt_new hH o1 h8 (by omega)
theorem pN_T {n : Nat} : zT (pN h t n) (zn h) = t := va_up_self _ _ _
theorem pN_L {n : Nat} : zL (pN h t n) (zn h) = n := va_up_self _ _ _
theorem zS_new {s : State} {locs : List Loc} (hS : va_S (zA G) s.heap H locs) (o1 : ∀ q, q < H.size → H1[q]? = H[q]?) (hz : H1.size = H.size + 1) : va_S (zA G) s.heap H1 locs := ⟨Nat.le_trans hS.1 (by omega), fun x h1 h2 => (o1 x (Nat.lt_of_lt_of_le h1 hS.1)).trans (hS.2.1 x h1 h2), hS.2.2⟩
def kplain (i : Nat) : Bool := (List.range (kN i)).all (fun k => match kt i k with
  | .int => true
  | .boolean => true
  | .long => true
  | .object _ => true
  | .array _ => true
  | _ => false)
theorem k_plain : ∀ i, i < 13 → kplain i = true := by decide +kernel
theorem k_def {i k : Nat} (hi : i < 13) (hk : k < kN i) (G : Gd) : defaultValue (kt i k) = zcv G (if kF (kt i k) = 0 then .int 0 else if kF (kt i k) = 2 then .long 0 else zrf 0) := by
  have h9 := List.all_eq_true.mp (k_plain i hi) k (List.mem_range.mpr hk)
  revert h9
  cases kt i k <;> intro h9 <;> first | rfl | (simp at h9)
theorem r_new {i x : Nat} (hd : decode M.2.1 pc = .ok (.new x, 3)) (hi : i < 13) (hN : kN i ≤ 100) (hw : Cond.classLink M.1 x (kR i) ∈ lw_tbl) (k : Ev G M d (pc + 3) L (.ref (zn h) :: st) (pN h i (kN i)) Z) : Ev G M d pc L st h Z := by
  refine Ev.make (n := kN i) rfl rfl k (fun p l e R s m args below meth c H locs cells slots Q ls B hc1 hc2 hH hS hl kk => ?_)
  have hK := B.2.1.known B.1 hi
  refine W.newcK B.2.2.1 B.2.2.2.1 B.2.2.2.2.2.1 (B.2.1.word B.1 hw rfl) (B.2.1.word B.1 (k_is i hi) rfl) (B.2.1.word B.1 (k_it i hi) rfl) rfl hd hc1 hc2 hK.2.1 rfl fun H1 kC hkC e1 z1 o1 => ?_
  have hat : zAt G (pN h i (kN i)) H1 (zn h) := by
    refine Or.inl ⟨by rw [pN_T]; exact hi, ?_⟩
    rw [pN_T, zad_new hH]
    refine (u_born (kt i) (B.2.1.lay (args := args) B.1 hi) (fun _ h => h) hK hkC e1 (k_ty i hi)).to (fun j hj => ?_)
    rw [k_def hi hj G]
    congr 1
    have e5 : kf (100 * i + j) = kF (kt i j) := by
      unfold kf
      rw [show (100 * i + j) / 100 = i by omega, show (100 * i + j) % 100 = j by omega]
    unfold zfv
    rw [e5]
    have e6 : zI (pN h i (kN i)) (100 * i + j) (zn h) = 0 := if_pos rfl
    have e7 : zJ (pN h i (kN i)) (100 * i + j) (zn h) = 0 := if_pos rfl
    have e8 : zR (pN h i (kN i)) (100 * i + j) (zn h) = 0 := if_pos rfl
    rw [e6, e7, e8]
  have k9 := kk H1 (zHR_new hH o1 z1 hat) (zS_new hS o1 z1)
  have e9 : (Value.ref (zn h) :: st).map (zcv G) = Value.ref H.size :: st.map (zcv G) := by
    rw [List.map_cons, zcv_ref, zad_new hH]
  rw [e9] at k9
  exact k9
end CL
