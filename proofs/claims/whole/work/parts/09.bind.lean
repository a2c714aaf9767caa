/-- a name for a value -/
def bh {α β : Type} (x : α) (f : α → β) : β := f x
theorem bhd {α β : Type} {x : α} {f : α → β} {r : β} (e : bh x f = r) : ∃ y, x = y ∧ f y = r := ⟨x, rfl, e⟩
theorem ite_or {c : Prop} [Decidable c] {α : Type} {a b r : α} (e : (if c then a else b) = r) : (c ∧ a = r) ∨ (¬ c ∧ b = r) := by
  by_cases hc : c
  · rw [if_pos hc] at e; exact Or.inl ⟨hc, e⟩
  · rw [if_neg hc] at e; exact Or.inr ⟨hc, e⟩
theorem cat_int (x : Int32) : (Value.int x).category = 1 := rfl
theorem cat_long (x : Int64) : (Value.long x).category = 2 := rfl
section SR
variable {G : Gd} {M : Mx} {d pc : Nat} {L : List (Nat × Value)} {st : List Value} {h : Hp} {Z : Cf → Prop}
theorem s_istore_n {j : Fin 4} {i : Nat} {x : Int32} (hd : decode M.2.1 pc = .ok (.istore_n j, 1)) (hj : (j : Nat) = i) (hi : i < M.2.2.1) (k : ∀ L1, zlk L1 i = some (.int x) → (∀ (q : Nat) (w : Value), q ≠ i → (q + 1 ≠ i ∨ w.category = 1) → zlk L q = some w → zlk L1 q = some w) → Ev G M d (pc + 1) L1 st h Z) : Ev G M d pc L (.int x :: st) h Z := r_istore_n hd hj hi (k _ (zlk_self _ _ _) (fun _ _ a b c => zlk_st a b c))
theorem s_istore {i : Nat} {x : Int32} (hd : decode M.2.1 pc = .ok (.istore i, 2)) (hi : i < M.2.2.1) (k : ∀ L1, zlk L1 i = some (.int x) → (∀ (q : Nat) (w : Value), q ≠ i → (q + 1 ≠ i ∨ w.category = 1) → zlk L q = some w → zlk L1 q = some w) → Ev G M d (pc + 2) L1 st h Z) : Ev G M d pc L (.int x :: st) h Z := r_istore hd hi (k _ (zlk_self _ _ _) (fun _ _ a b c => zlk_st a b c))
theorem s_ast_n {j : Fin 4} {i x : Nat} (hd : decode M.2.1 pc = .ok (.astore_n j, 1)) (hj : (j : Nat) = i) (hi : i < M.2.2.1) (k : ∀ L1, zlk L1 i = some (zrf x) → (∀ (q : Nat) (w : Value), q ≠ i → (q + 1 ≠ i ∨ w.category = 1) → zlk L q = some w → zlk L1 q = some w) → Ev G M d (pc + 1) L1 st h Z) : Ev G M d pc L (zrf x :: st) h Z := g_ast_n hd hj hi (k _ (zlk_self _ _ _) (fun _ _ a b c => zlk_st a b c))
theorem s_ast {i x : Nat} (hd : decode M.2.1 pc = .ok (.astore i, 2)) (hi : i < M.2.2.1) (k : ∀ L1, zlk L1 i = some (zrf x) → (∀ (q : Nat) (w : Value), q ≠ i → (q + 1 ≠ i ∨ w.category = 1) → zlk L q = some w → zlk L1 q = some w) → Ev G M d (pc + 2) L1 st h Z) : Ev G M d pc L (zrf x :: st) h Z := g_ast hd hi (k _ (zlk_self _ _ _) (fun _ _ a b c => zlk_st a b c))
theorem s_lstore_n {j : Fin 4} {i : Nat} {x : Int64} (hd : decode M.2.1 pc = .ok (.lstore_n j, 1)) (hj : (j : Nat) = i) (hi : i + 1 < M.2.2.1) (k : ∀ L1, zlk L1 i = some (.long x) → (∀ (q : Nat) (w : Value), q ≠ i → q ≠ i + 1 → (q + 1 ≠ i ∨ w.category = 1) → zlk L q = some w → zlk L1 q = some w) → Ev G M d (pc + 1) L1 st h Z) : Ev G M d pc L (.long x :: st) h Z := r_lstore_n hd hj hi (k _ (zlk_self2 _ _ _) (fun _ _ a b c e => zlk_st2 a b c e))
theorem s_lstore {i : Nat} {x : Int64} (hd : decode M.2.1 pc = .ok (.lstore i, 2)) (hi : i + 1 < M.2.2.1) (k : ∀ L1, zlk L1 i = some (.long x) → (∀ (q : Nat) (w : Value), q ≠ i → q ≠ i + 1 → (q + 1 ≠ i ∨ w.category = 1) → zlk L q = some w → zlk L1 q = some w) → Ev G M d (pc + 2) L1 st h Z) : Ev G M d pc L (.long x :: st) h Z := r_lstore hd hi (k _ (zlk_self2 _ _ _) (fun _ _ a b c e => zlk_st2 a b c e))
theorem s_iinc {i : Nat} {n : Int} {x w : Int32} (hd : decode M.2.1 pc = .ok (.iinc i n, 3)) (hv : zlk L i = some (.int x)) (hw : Int32.ofInt n = w) (hi : i < M.2.2.1) (k : ∀ L1, zlk L1 i = some (.int (x + w)) → (∀ (q : Nat) (w : Value), q ≠ i → (q + 1 ≠ i ∨ w.category = 1) → zlk L q = some w → zlk L1 q = some w) → Ev G M d (pc + 3) L1 st h Z) : Ev G M d pc L st h Z := r_iinc hd hv (by rw [hw]) hi (k _ (zlk_self _ _ _) (fun _ _ a b c => zlk_st a b c))
theorem g_mmax {x : Nat} {a b : Int32} (hd : decode M.2.1 pc = .ok (.invokestatic x, 3)) (hlk : Cond.methodLink M.1 x Lib.Math.max.name ∈ lw_tbl) (h1 : 1 ≤ d) (hst : (st.map fun v => v.category).sum ≤ 30) (k : Ev G M d (pc + 3) L (.int (if a < b then b else a) :: st) h Z) : Ev G M d pc L (.int b :: .int a :: st) h Z := by
  obtain ⟨F, ⟨k1, k2, k3⟩, hz⟩ := k
  refine ⟨F, ⟨k1, k2, ?_⟩, hz⟩
  intro p l e R s m args below meth c H locs cells slots Q ls B hd9 hlo hc hs hH hS hl kk
  have e9 : ((st.map (zcv G)).map fun v => v.category) = st.map fun v => v.category := by
    rw [List.map_map]
    exact List.map_congr_left (fun v _ => zcv_cat G v)
  exact va_mmax B.2.2.1 B.2.2.2.1 (by rw [B.2.2.2.2.1]; exact hl.1.symm) B.2.2.2.2.2.1 (B.2.1.word B.1 hlk rfl) (B.2.1.word B.1 (by decide +kernel) rfl) (B.2.1.word B.1 (by decide +kernel) rfl) (B.2.1.word B.1 (by decide +kernel) rfl) (by omega) (by rw [e9]; omega) (by omega) (by omega) hd (k3 p l e R s m args below meth c H locs cells slots Q ls B hd9 hlo hc hs hH hS hl kk)
theorem g_mmin {x : Nat} {a b : Int32} (hd : decode M.2.1 pc = .ok (.invokestatic x, 3)) (hlk : Cond.methodLink M.1 x Lib.Math.min.name ∈ lw_tbl) (h1 : 1 ≤ d) (hst : (st.map fun v => v.category).sum ≤ 30) (k : Ev G M d (pc + 3) L (.int (if b < a then b else a) :: st) h Z) : Ev G M d pc L (.int b :: .int a :: st) h Z := by
  obtain ⟨F, ⟨k1, k2, k3⟩, hz⟩ := k
  refine ⟨F, ⟨k1, k2, ?_⟩, hz⟩
  intro p l e R s m args below meth c H locs cells slots Q ls B hd9 hlo hc hs hH hS hl kk
  have e9 : ((st.map (zcv G)).map fun v => v.category) = st.map fun v => v.category := by
    rw [List.map_map]
    exact List.map_congr_left (fun v _ => zcv_cat G v)
  exact va_mmin B.2.2.1 B.2.2.2.1 (by rw [B.2.2.2.2.1]; exact hl.1.symm) B.2.2.2.2.2.1 (B.2.1.word B.1 hlk rfl) (B.2.1.word B.1 (by decide +kernel) rfl) (B.2.1.word B.1 (by decide +kernel) rfl) (B.2.1.word B.1 (by decide +kernel) rfl) (by omega) (by rw [e9]; omega) (by omega) (by omega) hd (k3 p l e R s m args below meth c H locs cells slots Q ls B hd9 hlo hc hs hH hS hl kk)
/-- a private constructor of a nest mate -/
def Nk (own : String) (x n : Nat) (Y : Yx) : Prop := Yk Y n ∧ Y.2.2.2 = none ∧ Cond.instanceMethod Y.1 ∈ lw_tbl ∧ Y.1.name = "<init>" ∧ Cond.methodLinkNest own x Y.1 "TaskWeave" ∈ lw_tbl
theorem g_callN {x n j i c : Nat} {Y : Yx} {as st0 : List Value} {h1 : Hp} (hd : decode M.2.1 pc = .ok (.invokespecial x, 3)) (hV : Nk M.1 x n Y) (hs : st0 = as.reverse ++ zrf c :: st) (ho : isO h c i) (hn : as.length = n) (hst : (st.map fun v => v.category).sum ≤ 8) (hj : j + 1 ≤ d) (hC : Cal G j Y (zrf c :: as) h none h1) (k : Ev G M d (pc + 3) L st h1 Z) : Ev G M d pc L st0 h Z := by
  rw [zrf_pos (isO.ne ho)] at hs hC
  subst hs
  refine Ev.call (r := none) (pc1 := pc) (j := j) hC.1 hC.2.1 k (fun p l e R s m args below meth c9 H locs cells slots ls B hR hRl hc1 hc2 hH hS9 hl => ⟨#[], ?_⟩)
  obtain ⟨hY, hret, hI, hnm, hlk⟩ := hV
  obtain ⟨y1, y2, y3, y4, y5, y6⟩ := hY
  have hM9 := hC.2.2 B.1 l B.2.2.2.2.2.2.2.2 j (Nat.le_refl j)
  have hl0 : va_Nw (.methodLinkNest M.1 x Y.1 "TaskWeave") s := va_Nw.warmM B.2.1.1 (va_Nw.of rfl (B.1.1.choose_spec _ hlk))
  have cb : va_CN R s args M.1 x Y.1 "TaskWeave" Y.2.1 Y.2.2.1 Y.2.2.2 [Cond.code Y.1 Y.2.1 Y.2.2.1 Y.2.2.2] ({ frames := j, cells := zn h1 - zn h, slots := zs h1 - zs h, locals := 48 * j } : Room) (zn h1 - zn h) (zs h1 - zs h) n := by
    refine ⟨⟨rfl, rfl, Nat.le_trans hj hR, ?_, fun w hw a' U hU => ?_, List.mem_cons_self⟩, B.2.1.word B.1 y1 rfl, B.2.1.word B.1 y2 rfl, y3, fun sig hs => ?_, va_Nw.use rfl hl0⟩
    · show 8 + (Y.2.2.1 + 11) + 48 * j ≤ R.locals
      omega
    · rw [List.mem_singleton.mp hw]
      exact word_at hU (Or.inl rfl) (B.2.1.word (args := args) B.1 y1 rfl)
    · rw [hs] at y4
      exact (Option.some.inj y4).symm
  rw [hret] at cb hM9
  exact va_runIN (args := args) (Ts := []) (own := M.1) (b := zad G c) (As := as.map (zcv G)) (rest := st.map (zcv G)) (g := F0 m pc ls ((as.reverse ++ .ref c :: st).map (zcv G))) (locs := locs) (cells := cells) (slots := slots) (e := e) (below := below) (meth := meth) ⟨B.2.2.1, B.2.2.2.1, B.2.2.2.2.1, B.2.2.2.2.2.1, fun w hw => by cases hw⟩ hM9
    ⟨cb, hnm, B.2.1.word B.1 hI rfl⟩
    ⟨zPc_blind, fun U hU hW => ⟨rfl, by rw [hU]; exact hH, B.2.1.on hS9 hU hW⟩⟩
    rfl (by rw [List.length_map]; exact hn) hl.1 (zrev as st _) (zroom hst) hd ⟨hc1, hc2⟩
end SR
