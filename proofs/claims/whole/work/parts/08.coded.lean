/-! THE RULES OVER CODED REFERENCES (0: null), and what the pure functions are made of -/
/-- a check: what comes behind it, or nothing -/
def ck (c : Prop) [Decidable c] {α : Type} (x : Option α) : Option α := if c then x else none
theorem ckd {c : Prop} [Decidable c] {α : Type} {x : Option α} {o : α} (e : ck c x = some o) : c ∧ x = some o := by
  unfold ck at e
  by_cases hc : c
  · rw [if_pos hc] at e; exact ⟨hc, e⟩
  · rw [if_neg hc] at e; cases e
theorem ck_pos {c : Prop} [Decidable c] {α : Type} {x : Option α} (hc : c) : ck c x = x := if_pos hc
theorem bd {α β : Type} {x : Option α} {f : α → Option β} {o : β} (e : x.bind f = some o) : ∃ q, x = some q ∧ f q = some o := by
  cases x with
  | none => cases e
  | some q => exact ⟨q, rfl, e⟩
/-- a place in an array of n -/
abbrev inR (i : Int32) (n : Nat) : Prop := ¬ (i < 0 ∨ n ≤ i.toNatClampNeg)
/-- 0 or 1 -/
abbrev isB (x : Int32) : Prop := narrow .boolean (.int x) = .int x
abbrev isC (x : Int32) : Prop := narrow .char (.int x) = .int x
/-- loops' fuel -/
def fz : Nat := 1000000
/-- a field by its link: own class, entry, number -/
def Fk (own : String) (i f : Nat) : Prop := f / 100 < 13 ∧ f % 100 < kN (f / 100) ∧ Cond.fieldLink own i (kT (f / 100) (f % 100)).1 (kT (f / 100) (f % 100)).2.1 (kT (f / 100) (f % 100)).2.2.1 ∈ lw_tbl
section GR
variable {G : Gd} {M : Mx} {d pc : Nat} {L : List (Nat × Value)} {st : List Value} {h : Hp} {Z : Cf → Prop}
theorem zlk_self (L : List (Nat × Value)) (i : Nat) (v : Value) : zlk (zst L i v) i = some v := by
  unfold zst zlk
  exact if_pos rfl
theorem zlk_self2 (L : List (Nat × Value)) (i : Nat) (v : Value) : zlk (zst2 L i v) i = some v := by
  unfold zst2 zlk
  exact if_pos rfl
theorem zlk_filter {p : Nat × Value → Bool} {i : Nat} {v : Value} : ∀ {L : List (Nat × Value)}, (∀ w, p (i, w) = true) → zlk L i = some v → zlk (L.filter p) i = some v
  | [], _, hq => hq
  | q :: r, hp, hq => by
    unfold zlk at hq
    by_cases hi : q.1 = i
    · rw [if_pos hi] at hq
      have hq1 : p q = true := by
        have := hp q.2
        rw [← hi] at this
        exact this
      rw [List.filter_cons_of_pos hq1]
      unfold zlk
      rw [if_pos hi, hq]
    · rw [if_neg hi] at hq
      by_cases hp1 : p q = true
      · rw [List.filter_cons_of_pos hp1]
        unfold zlk
        rw [if_neg hi]
        exact zlk_filter hp hq
      · rw [List.filter_cons_of_neg hp1]
        exact zlk_filter hp hq
theorem zlk_filter1 {p : Nat × Value → Bool} {i : Nat} {v : Value} (hp : p (i, v) = true) : ∀ {L : List (Nat × Value)}, zlk L i = some v → zlk (L.filter p) i = some v
  | [], hq => hq
  | q :: r, hq => by
    unfold zlk at hq
    by_cases hi : q.1 = i
    · rw [if_pos hi] at hq
      have hv : q.2 = v := Option.some.inj hq
      have hq1 : p q = true := by
        have e : q = (i, v) := by rw [← hi, ← hv]
        rw [e]; exact hp
      rw [List.filter_cons_of_pos hq1]
      unfold zlk
      rw [if_pos hi, hv]
    · rw [if_neg hi] at hq
      by_cases hp1 : p q = true
      · rw [List.filter_cons_of_pos hp1]
        unfold zlk
        rw [if_neg hi]
        exact zlk_filter1 hp hq
      · rw [List.filter_cons_of_neg hp1]
        exact zlk_filter1 hp hq
/-- another local stays -/
theorem zlk_st {i j : Nat} {v w : Value} (hij : j ≠ i) (hj : j + 1 ≠ i ∨ w.category = 1) (hq : zlk L j = some w) : zlk (zst L i v) j = some w := by
  unfold zst zlk
  rw [if_neg (fun q => hij q.symm)]
  refine zlk_filter1 ?_ hq
  have h1 : (j == i) = false := by simpa using hij
  show (!(j == i) && !(j + 1 == i && w.category == 2)) = true
  rw [h1]
  rcases hj with h2 | h2
  · have h3 : (j + 1 == i) = false := by simpa using h2
    rw [h3]; rfl
  · rw [h2]; simp
theorem zlk_st2 {i j : Nat} {v w : Value} (hij : j ≠ i) (hij2 : j ≠ i + 1) (hj : j + 1 ≠ i ∨ w.category = 1) (hq : zlk L j = some w) : zlk (zst2 L i v) j = some w := by
  unfold zst2 zlk
  rw [if_neg (fun q => hij q.symm)]
  refine zlk_filter1 ?_ hq
  have h1 : (j == i) = false := by simpa using hij
  have h4 : (j == i + 1) = false := by simpa using hij2
  show (!(j == i) && (!(j == i + 1) && !(j + 1 == i && w.category == 2))) = true
  rw [h1, h4]
  rcases hj with h2 | h2
  · have h3 : (j + 1 == i) = false := by simpa using h2
    rw [h3]; rfl
  · rw [h2]; simp
theorem zrf_cat (c : Nat) : (zrf c).category = 1 := by cases c <;> rfl
theorem g_ald_n {j : Fin 4} {i c : Nat} (hd : decode M.2.1 pc = .ok (.aload_n j, 1)) (hj : (j : Nat) = i) (hv : zlk L i = some (zrf c)) (k : Ev G M d (pc + 1) L (zrf c :: st) h Z) : Ev G M d pc L st h Z := by
  cases c with
  | zero => exact r_aload_nN hd hj hv k
  | succ r => exact r_aload_n hd hj hv k
theorem g_ald {i c : Nat} (hd : decode M.2.1 pc = .ok (.aload i, 2)) (hv : zlk L i = some (zrf c)) (k : Ev G M d (pc + 2) L (zrf c :: st) h Z) : Ev G M d pc L st h Z := by
  cases c with
  | zero => exact r_aloadN hd hv k
  | succ r => exact r_aload hd hv k
theorem g_ast_n {j : Fin 4} {i c : Nat} (hd : decode M.2.1 pc = .ok (.astore_n j, 1)) (hj : (j : Nat) = i) (hi : i < M.2.2.1) (k : Ev G M d (pc + 1) (zst L i (zrf c)) st h Z) : Ev G M d pc L (zrf c :: st) h Z := by
  cases c with
  | zero => exact r_astore_nN hd hj hi k
  | succ r => exact r_astore_n hd hj hi k
theorem g_ast {i c : Nat} (hd : decode M.2.1 pc = .ok (.astore i, 2)) (hi : i < M.2.2.1) (k : Ev G M d (pc + 2) (zst L i (zrf c)) st h Z) : Ev G M d pc L (zrf c :: st) h Z := by
  cases c with
  | zero => exact r_astoreN hd hi k
  | succ r => exact r_astore hd hi k
theorem g_null (hd : decode M.2.1 pc = .ok (.aconst_null, 1)) (k : Ev G M d (pc + 1) L (zrf 0 :: st) h Z) : Ev G M d pc L st h Z := r_null hd k
theorem g_ifnull {c : Nat} {off : Int} {tgt : Nat} (hd : decode M.2.1 pc = .ok (.ifnull off, 3)) (ht : (pc : Int) + off = (tgt : Int)) (kt : c = 0 → Ev G M d tgt L st h Z) (kf : ¬ c = 0 → Ev G M d (pc + 3) L st h Z) : Ev G M d pc L (zrf c :: st) h Z := by
  cases c with
  | zero => exact r_ifnullN hd ht (kt rfl)
  | succ r => exact r_ifnull hd (kf (by omega))
theorem g_ifnonnull {c : Nat} {off : Int} {tgt : Nat} (hd : decode M.2.1 pc = .ok (.ifnonnull off, 3)) (ht : (pc : Int) + off = (tgt : Int)) (kt : ¬ c = 0 → Ev G M d tgt L st h Z) (kf : c = 0 → Ev G M d (pc + 3) L st h Z) : Ev G M d pc L (zrf c :: st) h Z := by
  cases c with
  | zero => exact r_ifnonnullN hd (kf rfl)
  | succ r => exact r_ifnonnull hd ht (kt (by omega))
theorem isO.ne {c t : Nat} (ho : isO h c t) : c ≠ 0 := by have := ho.1; omega
theorem g_getI {f i c : Nat} (hd : decode M.2.1 pc = .ok (.getfield i, 3)) (ho : isO h c (f / 100)) (hF : Fk M.1 i f) (hk : kf f = 0) {v : Int32} (hv : zI h f c = v) (k : Ev G M d (pc + 3) L (.int v :: st) h Z) : Ev G M d pc L (zrf c :: st) h Z := by
  rw [zrf_pos (isO.ne ho)]
  exact r_get hd ho hF.1 hF.2.1 hF.2.2 (by unfold zfv; rw [if_pos hk, hv]) k
theorem g_getJ {f i c : Nat} (hd : decode M.2.1 pc = .ok (.getfield i, 3)) (ho : isO h c (f / 100)) (hF : Fk M.1 i f) (hk : kf f = 2) {v : Int64} (hv : zJ h f c = v) (k : Ev G M d (pc + 3) L (.long v :: st) h Z) : Ev G M d pc L (zrf c :: st) h Z := by
  rw [zrf_pos (isO.ne ho)]
  exact r_get hd ho hF.1 hF.2.1 hF.2.2 (by unfold zfv; rw [if_neg (by rw [hk]; decide), if_pos hk, hv]) k
theorem g_getR {f i c : Nat} (hd : decode M.2.1 pc = .ok (.getfield i, 3)) (ho : isO h c (f / 100)) (hF : Fk M.1 i f) (hk : kf f = 1) {v : Nat} (hv : zR h f c = v) (k : Ev G M d (pc + 3) L (zrf v :: st) h Z) : Ev G M d pc L (zrf c :: st) h Z := by
  rw [zrf_pos (isO.ne ho)]
  exact r_get hd ho hF.1 hF.2.1 hF.2.2 (by unfold zfv; rw [if_neg (by rw [hk]; decide), if_neg (by rw [hk]; decide), hv]) k
/-- who may write a field -/
def Wk (M : Mx) (f : Nat) : Prop := (kT (f / 100) (f % 100)).2.2.2 = false ∨ (M.2.2.2 = true ∧ (kT (f / 100) (f % 100)).1 = M.1)
theorem zfv_of {f : Nat} (a : Nat) (h1 h2 : Hp) (hI : zI h1 f a = zI h2 f a) (hJ : zJ h1 f a = zJ h2 f a) (hR : zR h1 f a = zR h2 f a) : zfv h1 f a = zfv h2 f a := by
  unfold zfv
  rw [hI, hJ, hR]
theorem g_putI {f i c : Nat} {v : Int32} (hd : decode M.2.1 pc = .ok (.putfield i, 3)) (ho : isO h c (f / 100)) (hF : Fk M.1 i f) (hk : kf f = 0) (hW : Wk M f) (hn : narrow (kt (f / 100) (f % 100)) (.int v) = .int v ∧ fits (kt (f / 100) (f % 100)) (.int v) = true) (k : Ev G M d (pc + 3) L st (pI h f c v) Z) : Ev G M d pc L (.int v :: zrf c :: st) h Z := by
  rw [zrf_pos (isO.ne ho)]
  refine r_put (h1 := pI h f c v) hd ho hF.1 hF.2.1 hF.2.2 hW (fun G => hn) rfl rfl rfl rfl (fun r hr g => ?_) (fun r u j => rfl) (fun j hj => ?_) k
  · exact zfv_of _ _ _ (up2_ne _ _ (fun q => hr q.2)) rfl rfl
  · by_cases hjf : j = f % 100
    · rw [if_pos hjf, hjf, show 100 * (f / 100) + f % 100 = f by omega]
      unfold zfv
      rw [if_pos hk]
      exact congrArg Value.int (up2_self _ _ _ _)
    · rw [if_neg hjf]
      exact zfv_of _ _ _ (up2_ne _ _ (fun q => hjf (by have := q.1; omega))) rfl rfl
theorem g_putJ {f i c : Nat} {v : Int64} (hd : decode M.2.1 pc = .ok (.putfield i, 3)) (ho : isO h c (f / 100)) (hF : Fk M.1 i f) (hk : kf f = 2) (hW : Wk M f) (hn : narrow (kt (f / 100) (f % 100)) (.long v) = .long v ∧ fits (kt (f / 100) (f % 100)) (.long v) = true) (k : Ev G M d (pc + 3) L st (pJ h f c v) Z) : Ev G M d pc L (.long v :: zrf c :: st) h Z := by
  rw [zrf_pos (isO.ne ho)]
  refine r_put (h1 := pJ h f c v) hd ho hF.1 hF.2.1 hF.2.2 hW (fun G => hn) rfl rfl rfl rfl (fun r hr g => ?_) (fun r u j => rfl) (fun j hj => ?_) k
  · exact zfv_of _ _ _ rfl (up2_ne _ _ (fun q => hr q.2)) rfl
  · by_cases hjf : j = f % 100
    · rw [if_pos hjf, hjf, show 100 * (f / 100) + f % 100 = f by omega]
      unfold zfv
      rw [if_neg (by rw [hk]; decide), if_pos hk]
      exact congrArg Value.long (up2_self _ _ _ _)
    · rw [if_neg hjf]
      exact zfv_of _ _ _ rfl (up2_ne _ _ (fun q => hjf (by have := q.1; omega))) rfl
theorem g_putR {f i c v : Nat} (hd : decode M.2.1 pc = .ok (.putfield i, 3)) (ho : isO h c (f / 100)) (hF : Fk M.1 i f) (hk : kf f = 1) (hW : Wk M f) (hn : (∃ n, kt (f / 100) (f % 100) = .object n) ∨ ∃ t, kt (f / 100) (f % 100) = .array t) (k : Ev G M d (pc + 3) L st (pR h f c v) Z) : Ev G M d pc L (zrf v :: zrf c :: st) h Z := by
  rw [zrf_pos (isO.ne ho)]
  refine r_put (h1 := pR h f c v) hd ho hF.1 hF.2.1 hF.2.2 hW (fun G => ?_) rfl rfl rfl rfl (fun r hr g => ?_) (fun r u j => rfl) (fun j hj => ?_) k
  · unfold zfit
    rcases hn with ⟨n, q⟩ | ⟨n, q⟩ <;> rw [q] <;> cases v <;> exact ⟨rfl, rfl⟩
  · exact zfv_of _ _ _ rfl rfl (up2_ne _ _ (fun q => hr q.2))
  · by_cases hjf : j = f % 100
    · rw [if_pos hjf, hjf, show 100 * (f / 100) + f % 100 = f by omega]
      unfold zfv
      rw [if_neg (by rw [hk]; decide), if_neg (by rw [hk]; decide)]
      exact congrArg zrf (up2_self _ _ _ _)
    · rw [if_neg hjf]
      exact zfv_of _ _ _ rfl rfl (up2_ne _ _ (fun q => hjf (by have := q.1; omega)))
theorem g_alen {t c : Nat} (hd : decode M.2.1 pc = .ok (.arraylength, 1)) (ho : isO h c t) (h1 : 20 ≤ t) (h2 : t < 30) {v : Int32} (hv : nI (zL h c) = v) (k : Ev G M d (pc + 1) L (.int v :: st) h Z) : Ev G M d pc L (zrf c :: st) h Z := by
  rw [zrf_pos (isO.ne ho)]
  exact r_alen hd ho h1 h2 hv k
theorem g_iald {i : Int32} {c : Nat} (hd : decode M.2.1 pc = .ok (.iaload, 1)) (ho : isO h c 22) (hin : inR i (zL h c)) {v : Int32} (hv : zE h c i.toNatClampNeg = v) (k : Ev G M d (pc + 1) L (.int v :: st) h Z) : Ev G M d pc L (.int i :: zrf c :: st) h Z := by
  rw [zrf_pos (isO.ne ho)]
  exact r_iald hd ho hin hv k
theorem g_bald {i : Int32} {c : Nat} (hd : decode M.2.1 pc = .ok (.baload, 1)) (ho : isO h c 20) (hin : inR i (zL h c)) {v : Int32} (hv : zE h c i.toNatClampNeg = v) (k : Ev G M d (pc + 1) L (.int v :: st) h Z) : Ev G M d pc L (.int i :: zrf c :: st) h Z := by
  rw [zrf_pos (isO.ne ho)]
  exact r_bald hd ho hin hv k
theorem g_zald {i : Int32} {c : Nat} (hd : decode M.2.1 pc = .ok (.baload, 1)) (ho : isO h c 23) (hin : inR i (zL h c)) {v : Int32} (hv : zE h c i.toNatClampNeg = v) (k : Ev G M d (pc + 1) L (.int v :: st) h Z) : Ev G M d pc L (.int i :: zrf c :: st) h Z := by
  rw [zrf_pos (isO.ne ho)]
  exact r_zald hd ho hin hv k
theorem g_cald {i : Int32} {c : Nat} (hd : decode M.2.1 pc = .ok (.caload, 1)) (ho : isO h c 21) (hin : inR i (zL h c)) {v : Int32} (hv : zE h c i.toNatClampNeg = v) (k : Ev G M d (pc + 1) L (.int v :: st) h Z) : Ev G M d pc L (.int i :: zrf c :: st) h Z := by
  rw [zrf_pos (isO.ne ho)]
  exact r_cald hd ho hin hv k
theorem g_lald {i : Int32} {c : Nat} (hd : decode M.2.1 pc = .ok (.laload, 1)) (ho : isO h c 24) (hin : inR i (zL h c)) {v : Int64} (hv : zX h c i.toNatClampNeg = v) (k : Ev G M d (pc + 1) L (.long v :: st) h Z) : Ev G M d pc L (.int i :: zrf c :: st) h Z := by
  rw [zrf_pos (isO.ne ho)]
  exact r_lald hd ho hin hv k
theorem g_aald {i : Int32} {c t : Nat} (hd : decode M.2.1 pc = .ok (.aaload, 1)) (ho : isO h c t) (h1 : 25 ≤ t) (h2 : t < 30) (hin : inR i (zL h c)) {v : Nat} (hv : zQ h c i.toNatClampNeg = v) (k : Ev G M d (pc + 1) L (zrf v :: st) h Z) : Ev G M d pc L (.int i :: zrf c :: st) h Z := by
  rw [zrf_pos (isO.ne ho)]
  exact r_aald hd ho h1 h2 hin (by rw [hv]) k
theorem g_iast {i x : Int32} {c : Nat} (hd : decode M.2.1 pc = .ok (.iastore, 1)) (ho : isO h c 22) (hin : inR i (zL h c)) (k : Ev G M d (pc + 1) L st (pE h c i.toNatClampNeg (x)) Z) : Ev G M d pc L (.int x :: .int i :: zrf c :: st) h Z := by
  rw [zrf_pos (isO.ne ho)]
  exact r_iast hd ho hin k
theorem g_bast {i x : Int32} {c : Nat} (hd : decode M.2.1 pc = .ok (.bastore, 1)) (ho : isO h c 20) (hin : inR i (zL h c)) (k : Ev G M d (pc + 1) L st (pE h c i.toNatClampNeg (x.toInt8.toInt32)) Z) : Ev G M d pc L (.int x :: .int i :: zrf c :: st) h Z := by
  rw [zrf_pos (isO.ne ho)]
  exact r_bast hd ho hin k
theorem g_zast {i x : Int32} {c : Nat} (hd : decode M.2.1 pc = .ok (.bastore, 1)) (ho : isO h c 23) (hin : inR i (zL h c)) (k : Ev G M d (pc + 1) L st (pE h c i.toNatClampNeg ((x &&& 1))) Z) : Ev G M d pc L (.int x :: .int i :: zrf c :: st) h Z := by
  rw [zrf_pos (isO.ne ho)]
  exact r_zast hd ho hin k
theorem g_cast {i x : Int32} {c : Nat} (hd : decode M.2.1 pc = .ok (.castore, 1)) (ho : isO h c 21) (hin : inR i (zL h c)) (k : Ev G M d (pc + 1) L st (pE h c i.toNatClampNeg ((x.toUInt32 % 65536).toInt32)) Z) : Ev G M d pc L (.int x :: .int i :: zrf c :: st) h Z := by
  rw [zrf_pos (isO.ne ho)]
  exact r_cast hd ho hin k
theorem g_last {i : Int32} {x : Int64} {c : Nat} (hd : decode M.2.1 pc = .ok (.lastore, 1)) (ho : isO h c 24) (hin : inR i (zL h c)) (k : Ev G M d (pc + 1) L st (pX h c i.toNatClampNeg x) Z) : Ev G M d pc L (.long x :: .int i :: zrf c :: st) h Z := by
  rw [zrf_pos (isO.ne ho)]
  exact r_last hd ho hin k
theorem g_aast {i : Int32} {c t v ci : Nat} (hd : decode M.2.1 pc = .ok (.aastore, 1)) (ho : isO h c t) (h1 : 25 ≤ t) (h2 : t < 30) (hvo : isO h v ci) (hci : ci < 13) (hA : kA t = .object (kR ci)) (hin : inR i (zL h c)) (k : Ev G M d (pc + 1) L st (pQ h c i.toNatClampNeg v) Z) : Ev G M d pc L (zrf v :: .int i :: zrf c :: st) h Z := by
  rw [zrf_pos (isO.ne ho), zrf_pos (isO.ne hvo)]
  exact r_aast hd ho h1 h2 hvo hci hA hin k
theorem zn_ne {h : Hp} (hn : 8 ≤ zn h) : zrf (zn h) = .ref (zn h) := zrf_pos (by omega)
theorem g_new {i x : Nat} (h8 : 8 ≤ zn h) (hd : decode M.2.1 pc = .ok (.new x, 3)) (hi : i < 13) (hN : kN i ≤ 100) (hw : Cond.classLink M.1 x (kR i) ∈ lw_tbl) (k : Ev G M d (pc + 3) L (zrf (zn h) :: st) (pN h i (kN i)) Z) : Ev G M d pc L st h Z := by
  rw [zn_ne h8] at k
  exact r_new hd hi hN hw k
theorem g_newa {t : Nat} {ty : ArrayType} {n : Int32} (h8 : 8 ≤ zn h) (hd : decode M.2.1 pc = .ok (.newarray ty, 2)) (h1 : 20 ≤ t) (h2 : t < 25) (hty : newarray.typeOf ty = kA t) (hn : ¬ n < 0 ∧ n.toNatClampNeg ≤ 1000000) (hb : 1000000 * componentBytes (newarray.typeOf ty) ≤ 536870912) (hw : Cond.arrayClass (newarray.typeOf ty) ∈ lw_tbl) (k : Ev G M d (pc + 2) L (zrf (zn h) :: st) (pN h t n.toNatClampNeg) Z) : Ev G M d pc L (.int n :: st) h Z := by
  rw [zn_ne h8] at k
  exact r_newa hd h1 h2 hty hn.1 rfl (Nat.le_trans (Nat.mul_le_mul_right _ hn.2) hb) hw k
theorem g_newq {x t : Nat} {n : Int32} {C : String} (h8 : 8 ≤ zn h) (hd : decode M.2.1 pc = .ok (.anewarray x, 3)) (h1 : 25 ≤ t) (h2 : t < 30) (hA : kA t = .object C) (hn : ¬ n < 0 ∧ n.toNatClampNeg ≤ 1000000) (hw : Cond.classLink M.1 x C ∈ lw_tbl) (hv : Cond.arrayOver (.object C) ∈ lw_tbl) (k : Ev G M d (pc + 3) L (zrf (zn h) :: st) (pN h t n.toNatClampNeg) Z) : Ev G M d pc L (.int n :: st) h Z := by
  rw [zn_ne h8] at k
  exact r_newq hd h1 h2 hA hn.1 rfl (by omega) hw hv k
/-- an instance method's words -/
def Vk (own : String) (x n i : Nat) (Y : Yx) : Prop := Yk Y n ∧ Cond.instanceMethod Y.1 ∈ lw_tbl ∧ Cond.selects (kR i) Y.1 Y.1 ∈ lw_tbl ∧ Cond.methodLink own x Y.1 ∈ lw_tbl ∧ i < 13
def Sk (own : String) (x n : Nat) (Y : Yx) : Prop := Yk Y n ∧ Cond.static Y.1 ∈ lw_tbl ∧ Cond.methodLink own x Y.1 ∈ lw_tbl
def Ik (own : String) (x n : Nat) (Y : Yx) : Prop := Yk Y n ∧ Y.2.2.2 = none ∧ Cond.instanceMethod Y.1 ∈ lw_tbl ∧ Y.1.name = "<init>" ∧ Cond.methodLink own x Y.1 ∈ lw_tbl
theorem g_callV {x n j i c : Nat} {Y : Yx} {as st0 : List Value} {r : Option Value} {h1 : Hp} (hd : decode M.2.1 pc = .ok (.invokevirtual x, 3)) (hV : Vk M.1 x n i Y) (hs : st0 = as.reverse ++ zrf c :: st) (ho : isO h c i) (hn : as.length = n) (hst : (st.map fun v => v.category).sum ≤ 8) (hj : j + 1 ≤ d) (hC : Cal G j Y (zrf c :: as) h r h1) (k : Ev G M d (pc + 3) L (r.toList ++ st) h1 Z) : Ev G M d pc L st0 h Z := by
  rw [zrf_pos (isO.ne ho)] at hs hC
  exact r_callV hd hV.1 hV.2.1 hV.2.2.1 hV.2.2.2.1 hs ho hV.2.2.2.2 hn hst hj hC k
theorem g_callS {x n j : Nat} {Y : Yx} {as st0 : List Value} {r : Option Value} {h1 : Hp} (hd : decode M.2.1 pc = .ok (.invokestatic x, 3)) (hV : Sk M.1 x n Y) (hs : st0 = as.reverse ++ st) (hn : as.length = n) (hst : (st.map fun v => v.category).sum ≤ 8) (hj : j + 1 ≤ d) (hC : Cal G j Y as h r h1) (k : Ev G M d (pc + 3) L (r.toList ++ st) h1 Z) : Ev G M d pc L st0 h Z := r_callS hd hV.1 hV.2.1 hV.2.2 hs hn hst hj hC k
theorem g_callI {x n j i c : Nat} {Y : Yx} {as st0 : List Value} {h1 : Hp} (hd : decode M.2.1 pc = .ok (.invokespecial x, 3)) (hV : Ik M.1 x n Y) (hs : st0 = as.reverse ++ zrf c :: st) (ho : isO h c i) (hn : as.length = n) (hst : (st.map fun v => v.category).sum ≤ 8) (hj : j + 1 ≤ d) (hC : Cal G j Y (zrf c :: as) h none h1) (k : Ev G M d (pc + 3) L st h1 Z) : Ev G M d pc L st0 h Z := by
  rw [zrf_pos (isO.ne ho)] at hs hC
  exact r_callI hd hV.1 hV.2.1 hV.2.2.1 hV.2.2.2.1 hV.2.2.2.2 hs hn hst hj hC k
theorem g_objInit {x c i : Nat} (ho : isO h c i) (hd : decode M.2.1 pc = .ok (.invokespecial x, 3)) (hlk : Cond.methodLink M.1 x objectInit ∈ lw_tbl) (h1 : 1 ≤ d) (hst : (st.map fun v => v.category).sum ≤ 30) (k : Ev G M d (pc + 3) L st h Z) : Ev G M d pc L (zrf c :: st) h Z := by
  rw [zrf_pos (isO.ne ho)]
  exact r_objInit hd hlk h1 hst k
theorem g_aret {Y : Yx} {c : Nat} {ty : FieldType} (hd : decode Y.2.1 pc = .ok (.areturn, 1)) (hY : Y.2.2.2 = some ty) (ht : (∃ n, ty = .object n) ∨ ∃ t, ty = .array t) : Ev G M d pc L [zrf c] h (Ret Y (some (zrf c)) h) := Ev.here ⟨rfl, Or.inr (Or.inr (Or.inr ⟨hd, _, ty, rfl, rfl, by cases c with
  | zero => exact Or.inl rfl
  | succ r => exact Or.inr ⟨_, rfl⟩, hY, ht⟩))⟩
theorem g_iret {Y : Yx} {x : Int32} {ty : FieldType} (hd : decode Y.2.1 pc = .ok (.ireturn, 1)) (hY : Y.2.2.2 = some ty) (hn : narrow ty (.int x) = .int x) : Ev G M d pc L [.int x] h (Ret Y (some (.int x)) h) := Ev.here ⟨rfl, Or.inr (Or.inl ⟨hd, x, ty, rfl, rfl, hY, hn⟩)⟩
theorem g_lret {Y : Yx} {x : Int64} (hd : decode Y.2.1 pc = .ok (.lreturn, 1)) (hY : Y.2.2.2 = some .long) : Ev G M d pc L [.long x] h (Ret Y (some (.long x)) h) := Ev.here ⟨rfl, Or.inr (Or.inr (Or.inl ⟨hd, x, rfl, rfl, hY⟩))⟩
theorem g_vret {Y : Yx} (hd : decode Y.2.1 pc = .ok (.return_, 1)) (hY : Y.2.2.2 = none) : Ev G M d pc L [] h (Ret Y none h) := Ev.here ⟨rfl, Or.inl ⟨hd, rfl, rfl, hY⟩⟩
end GR
