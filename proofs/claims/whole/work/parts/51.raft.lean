/-! LOGS THAT AGREE -/
theorem dkWrite_down {d : Dk} {r : Rec} (h : dkU d = false) : dkWrite d r = d := by
  unfold dkWrite; rw [if_pos h]
theorem dkWrites_down {d : Dk} (h : dkU d = false) : ∀ rs, dkWrites d rs = d
  | [] => rfl
  | r :: rs => by
    show dkWrites (dkWrite d r) rs = d
    rw [dkWrite_down h]; exact dkWrites_down h rs
/-- a record is written whole, or the disk is down and its log as it was -/
theorem dkWrite_or (d : Dk) (r : Rec) : (dkU (dkWrite d r) = true ∧ dkU d = true ∧ dkL (dkWrite d r) = dkL d ++ [r]) ∨ (dkU (dkWrite d r) = false ∧ dkL (dkWrite d r) = dkL d) := by
  unfold dkWrite
  by_cases h1 : dkU d = false
  · rw [if_pos h1]; exact Or.inr ⟨h1, rfl⟩
  · rw [if_neg h1]
    split
    · exact Or.inr ⟨rfl, rfl⟩
    · exact Or.inl ⟨rfl, by cases h : dkU d <;> simp_all, rfl⟩
theorem dkWrites_or : ∀ (rs : List Rec) (d : Dk), (dkU (dkWrites d rs) = true ∧ dkL (dkWrites d rs) = dkL d ++ rs) ∨ (dkU (dkWrites d rs) = false ∧ ∃ j, dkL (dkWrites d rs) = dkL d ++ rs.take j)
  | [], d => by
    cases h : dkU d
    · exact Or.inr ⟨h, 0, by simp [dkWrites]⟩
    · exact Or.inl ⟨h, by simp [dkWrites]⟩
  | r :: rs, d => by
    show (dkU (dkWrites (dkWrite d r) rs) = true ∧ _) ∨ (dkU (dkWrites (dkWrite d r) rs) = false ∧ _)
    rcases dkWrite_or d r with ⟨h1, h2, h3⟩ | ⟨h1, h2⟩
    · rcases dkWrites_or rs (dkWrite d r) with ⟨g1, g2⟩ | ⟨g1, j, g2⟩
      · exact Or.inl ⟨g1, by show dkL (dkWrites (dkWrite d r) rs) = _; rw [g2, h3, List.append_assoc]; rfl⟩
      · exact Or.inr ⟨g1, j + 1, by show dkL (dkWrites (dkWrite d r) rs) = _; rw [g2, h3, List.append_assoc]; rfl⟩
    · rw [dkWrites_down h1]
      exact Or.inr ⟨h1, 0, by show dkL (dkWrites (dkWrite d r) rs) = _; rw [dkWrites_down h1, h2]; simp⟩
theorem cpl_take : ∀ (a b : List Rec), a.take (cpl a b) = b.take (cpl a b)
  | [], [] => rfl
  | [], _ :: _ => by simp [cpl]
  | _ :: _, [] => by simp [cpl]
  | x :: a, y :: b => by
    unfold cpl
    split
    · next h => rw [h, List.take_succ_cons, List.take_succ_cons, cpl_take a b]
    · rfl
theorem cpl_pre : ∀ (c a b : List Rec), c <+: a → c <+: b → c.length ≤ cpl a b
  | [], _, _, _, _ => Nat.zero_le _
  | x :: c, a, b, ha, hb => by
    obtain ⟨p, rfl⟩ := ha
    obtain ⟨q, rfl⟩ := hb
    show c.length + 1 ≤ cpl (x :: (c ++ p)) (x :: (c ++ q))
    unfold cpl
    rw [if_pos rfl]
    exact Nat.succ_le_succ (cpl_pre c _ _ ⟨p, rfl⟩ ⟨q, rfl⟩)
/-- made alike: a beginning of the other's log, and all of it if it is still up -/
theorem dkAlike_or (d l : Dk) : ∃ j, cpl (dkL d) (dkL l) ≤ j ∧ dkL (dkAlike d l) = (dkL l).take j ∧ (dkU (dkAlike d l) = true → dkL (dkAlike d l) = dkL l) := by
  have e := cpl_take (dkL d) (dkL l)
  generalize hk : cpl (dkL d) (dkL l) = k at e
  have q := dkWrites_or ((dkL l).drop k) ((dkL d).take k, dkU d, dkF d, 0, dkR d)
  unfold dkAlike
  rw [hk]
  have e1 : dkL (((dkL d).take k, dkU d, dkF d, 0, dkR d) : Dk) = (dkL l).take k := e
  rw [e1] at q
  rcases q with ⟨g1, g2⟩ | ⟨g1, j, g2⟩
  · rw [List.take_append_drop] at g2
    exact ⟨max k (dkL l).length, Nat.le_max_left _ _, by rw [g2, List.take_of_length_le (Nat.le_max_right _ _)], fun _ => g2⟩
  · refine ⟨k + j, Nat.le_add_right _ _, ?_, fun h => by rw [g1] at h; cases h⟩
    rw [g2, List.take_add]
def lgM (L : List Rec) : Prop := L.Pairwise (fun a b => rcT a ≤ rcT b)
/-- for each term a log that all logs with that last term begin -/
def lgG (T : Nat) (P : Nat → List Rec) : Prop := ∀ t, t ≤ T → lgM (P t) ∧ (∀ r ∈ P t, rcT r ≤ t) ∧ ∀ (k : Nat) (r : Rec), (P t)[k]? = some r → (P t).take (k + 1) <+: P (rcT r)
def lgX (T : Nat) (P : Nat → List Rec) (L : List Rec) : Prop := L = [] ∨ (lgT L ≤ T ∧ L <+: P (lgT L))
theorem lgT_nil : lgT [] = 0 := rfl
theorem lgT_snoc (L : List Rec) (r : Rec) : lgT (L ++ [r]) = rcT r := by
  unfold lgT; rw [List.getLast?_append]; rfl
theorem lg_cases (L : List Rec) : L = [] ∨ ∃ A r, L = A ++ [r] := by
  rcases List.eq_nil_or_concat L with h | ⟨A, r, h⟩
  · exact Or.inl h
  · exact Or.inr ⟨A, r, by simpa using h⟩
theorem lgM_pre {L M : List Rec} (h : L <+: M) (hM : lgM M) : lgM L := by
  obtain ⟨t, rfl⟩ := h
  exact (List.pairwise_append.mp hM).1
/-- what is in a log is not of a greater term than its last -/
theorem lgM_last {L : List Rec} (hM : lgM L) {r : Rec} (hr : r ∈ L) : rcT r ≤ lgT L := by
  rcases lg_cases L with rfl | ⟨A, q, rfl⟩
  · cases hr
  · rw [lgT_snoc]
    rcases List.mem_append.mp hr with h | h
    · exact (List.pairwise_append.mp hM).2.2 r h q (List.mem_singleton.mpr rfl)
    · rw [List.mem_singleton.mp h]; exact Nat.le_refl _
theorem lgT_mono {L M : List Rec} (h : L <+: M) (hM : lgM M) : lgT L ≤ lgT M := by
  rcases lg_cases L with rfl | ⟨A, q, rfl⟩
  · exact Nat.zero_le _
  · rw [lgT_snoc]
    refine lgM_last hM (h.subset ?_)
    exact List.mem_append_right _ (List.mem_singleton.mpr rfl)
theorem lgX_at {T : Nat} {P : Nat → List Rec} {L : List Rec} (hG : lgG T P) (hX : lgX T P L) {k : Nat} {r : Rec} (hr : L[k]? = some r) : rcT r ≤ T ∧ L.take (k + 1) <+: P (rcT r) := by
  rcases hX with rfl | ⟨h1, h2⟩
  · cases hr
  · obtain ⟨s, hs⟩ := h2
    have hr' : (P (lgT L))[k]? = some r := by
      rw [← hs, List.getElem?_append_left (List.getElem?_eq_some_iff.mp hr).1]; exact hr
    have hk : k < L.length := (List.getElem?_eq_some_iff.mp hr).1
    obtain ⟨g1, g2, g3⟩ := hG _ h1
    refine ⟨Nat.le_trans (g2 r (List.mem_of_getElem? hr')) h1, ?_⟩
    have := g3 k r hr'
    rw [← hs, List.take_append_of_le_length hk] at this
    exact this
theorem lgX_M {T : Nat} {P : Nat → List Rec} {L : List Rec} (hG : lgG T P) (hX : lgX T P L) : lgM L := by
  rcases hX with rfl | ⟨h1, h2⟩
  · exact List.Pairwise.nil
  · exact lgM_pre h2 (hG _ h1).1
theorem lgX_le {T : Nat} {P : Nat → List Rec} {L : List Rec} (hX : lgX T P L) : lgT L ≤ T := by
  rcases hX with rfl | ⟨h1, h2⟩
  · exact Nat.zero_le _
  · exact h1
theorem lgX_take {T : Nat} {P : Nat → List Rec} {L : List Rec} (hG : lgG T P) (hX : lgX T P L) (j : Nat) : lgX T P (L.take j) := by
  rcases lg_cases (L.take j) with h | ⟨A, r, h⟩
  · exact Or.inl h
  · have hr : L[A.length]? = some r := by
      have h1 : (L.take j)[A.length]? = some r := by rw [h]; simp
      have h2 : A.length < j := by
        have := congrArg List.length h
        rw [List.length_take, List.length_append] at this
        simp at this
        omega
      rw [List.getElem?_take_of_lt h2] at h1
      exact h1
    have q := lgX_at hG hX hr
    have e : L.take (A.length + 1) = L.take j := by
      have hl := congrArg List.length h
      rw [List.length_take, List.length_append] at hl
      have : (L.take j).length = A.length + 1 := by rw [h]; simp
      rw [← this, List.length_take, List.take_eq_take_iff]
      omega
    rw [e] at q
    refine Or.inr ⟨?_, ?_⟩
    · rw [h, lgT_snoc]; exact q.1
    · rw [h, lgT_snoc, ← h]; exact q.2
/-- two that begin one log -/
theorem pre_cmp {A B M : List Rec} (ha : A <+: M) (hb : B <+: M) : A <+: B ∨ B <+: A := by
  rcases Nat.le_total A.length B.length with h | h
  · exact Or.inl (List.prefix_of_prefix_length_le ha hb h)
  · exact Or.inr (List.prefix_of_prefix_length_le hb ha h)
/-- the best of those that are up has all that most have -/
theorem lg_complete {T : Nat} {P : Nat → List Rec} {C L M : List Rec} (hG : lgG T P) (hL : lgX T P L) (hM : lgX T P M) (hC : C <+: M) (hCP : ∀ t, lgT C ≤ t → t ≤ T → C <+: P t) (hb : lgT M < lgT L ∨ (lgT M = lgT L ∧ M.length ≤ L.length)) : C <+: L := by
  have mM := lgX_M hG hM
  have mL := lgX_M hG hL
  have c1 : lgT C ≤ lgT M := lgT_mono hC mM
  rcases lg_cases L with rfl | ⟨A, r, hLr⟩
  · rcases hb with hb | ⟨-, hb⟩
    · cases hb
    · have : M = [] := List.length_eq_zero_iff.mp (Nat.le_zero.mp hb)
      rw [this] at hC
      exact hC
  · have hL2 : lgT L ≤ T ∧ L <+: P (lgT L) := by
      rcases hL with h | h
      · rw [h] at hLr; simp at hLr
      · exact h
    have cP : C <+: P (lgT L) := hCP _ (by omega) hL2.1
    rcases pre_cmp cP hL2.2 with h | h
    · exact h
    · -- the log begins the committed one
      have mC : lgM C := lgM_pre hC mM
      have c2 : lgT L ≤ lgT C := lgT_mono h mC
      rcases hb with hb | ⟨h1, h2⟩
      · omega
      · have hM2 : M <+: P (lgT L) := by
          rcases hM with h3 | h3
          · rw [h3] at hC ⊢; exact List.nil_prefix
          · rw [h1] at h3; exact h3.2
        have : M <+: L := List.prefix_of_prefix_length_le hM2 hL2.2 h2
        have hML : M = L := by
          have hLM : L.length ≤ M.length := Nat.le_trans h.length_le hC.length_le
          exact this.eq_of_length_le hLM
        rw [← hML]; exact hC
/-- two sets of more than half meet -/
theorem two_meet : ∀ (l : List Nat) (p q : Nat → Bool), (∀ x ∈ l, p x = true → q x = true → False) → (l.filter p).length + (l.filter q).length ≤ l.length
  | [], _, _, _ => Nat.le_refl _
  | x :: l, p, q, h => by
    have ih := two_meet l p q (fun y hy => h y (List.mem_cons_of_mem _ hy))
    have hx := h x List.mem_cons_self
    rw [List.filter_cons, List.filter_cons, List.length_cons]
    cases hp : p x <;> cases hq : q x
    · simp; omega
    · simp; omega
    · simp; omega
    · exact (hx hp hq).elim
theorem two_halves {Z : Nat} {p q : Nat → Bool} (h1 : Z < 2 * ((List.range Z).filter p).length) (h2 : Z < 2 * ((List.range Z).filter q).length) : ∃ x, x < Z ∧ p x = true ∧ q x = true := by
  by_cases h : ∃ x, x < Z ∧ p x = true ∧ q x = true
  · exact h
  · have := two_meet (List.range Z) p q (fun x hx hp hq => h ⟨x, List.mem_range.mp hx, hp, hq⟩)
    rw [List.length_range] at this
    omega
theorem half_mono {Z : Nat} {p q : Nat → Bool} (h : ∀ x, x < Z → p x = true → q x = true) (h1 : Z < 2 * ((List.range Z).filter p).length) : Z < 2 * ((List.range Z).filter q).length := by
  have : ∀ l : List Nat, (∀ x ∈ l, p x = true → q x = true) → (l.filter p).length ≤ (l.filter q).length := by
    intro l
    induction l with
    | nil => intro _; exact Nat.le_refl _
    | cons x l ih =>
      intro hl
      have i1 := ih (fun y hy => hl y (List.mem_cons_of_mem _ hy))
      have i2 := hl x List.mem_cons_self
      rw [List.filter_cons, List.filter_cons]
      cases hp : p x <;> cases hq : q x
      · simpa using i1
      · simp; omega
      · have := i2 hp; rw [hq] at this; cases this
      · simpa using i1
  have := this (List.range Z) (fun x hx => h x (List.mem_range.mp hx))
  omega
/-! A SHARD'S LOGS. C: what has been done -/
def ShW (h : Shd) (l : Nat) : Prop := l < shZ h ∧ shL h = nI l ∧ dkU (shD h l) = true ∧ (∀ x, x < shZ h → dkU (shD h x) = true → dkL (shD h x) = dkL (shD h l)) ∧ shMost h = true
def ShR (V : List Rec → Prop) (h : Shd) (C : List Rec) : Prop := shZ h ≤ 5 ∧ ∃ (P : Nat → List Rec) (Q : Nat → Bool), (lgG (shT h) P ∧ ∀ t, t ≤ shT h → V (P t)) ∧ (∀ x, x < shZ h → lgX (shT h) P (dkL (shD h x))) ∧
  (shZ h < 2 * ((List.range (shZ h)).filter Q).length ∧ ∀ x, x < shZ h → Q x = true → C <+: dkL (shD h x)) ∧
  (lgT C ≤ shT h ∧ ∀ t, lgT C ≤ t → t ≤ shT h → C <+: P t) ∧
  (shL h ≠ -1 → ∃ l, ShW h l ∧ P (shT h) = dkL (shD h l) ∧ C = dkL (shD h l))
theorem shMost_iff (h : Shd) : shMost h = true ↔ shZ h < 2 * ((List.range (shZ h)).filter (fun r => dkU (shD h r))).length := by
  unfold shMost shUps; exact decide_eq_true_iff
theorem lgX_up {T : Nat} {P P1 : Nat → List Rec} {L : List Rec} (h : ∀ t, P t <+: P1 t) (hX : lgX T P L) : lgX T P1 L := by
  rcases hX with h1 | ⟨h1, h2⟩
  · exact Or.inl h1
  · exact Or.inr ⟨h1, h2.trans (h _)⟩
/-- the last term's log grows -/
theorem lgG_grow {T : Nat} {P : Nat → List Rec} (hG : lgG T P) (r : Rec) (hr : rcT r = T) : lgG T (upf P T (P T ++ [r])) := by
  intro t ht
  obtain ⟨g1, g2, g3⟩ := hG t ht
  by_cases h : t = T
  · subst h
    have e : upf P t (P t ++ [r]) t = P t ++ [r] := if_pos rfl
    rw [e]
    refine ⟨List.pairwise_append.mpr ⟨g1, List.pairwise_singleton _ _, fun a ha b hb => ?_⟩, fun q hq => ?_, fun k q hk => ?_⟩
    · rw [List.mem_singleton.mp hb, hr]; exact g2 a ha
    · rcases List.mem_append.mp hq with hq | hq
      · exact g2 q hq
      · rw [List.mem_singleton.mp hq, hr]; exact Nat.le_refl _
    · by_cases hk1 : k < (P t).length
      · rw [List.getElem?_append_left hk1] at hk
        rw [List.take_append_of_le_length hk1]
        refine (g3 k q hk).trans ?_
        unfold upf
        split
        · next e => rw [e]; exact List.prefix_append _ _
        · exact List.prefix_rfl
      · have hk2 : k = (P t).length := by
          have := (List.getElem?_eq_some_iff.mp hk).1
          rw [List.length_append] at this
          simp at this
          omega
        subst hk2
        have : q = r := by
          rw [List.getElem?_append_right (Nat.le_refl _), Nat.sub_self] at hk
          exact (Option.some.inj hk).symm
        rw [this, hr, e]
        exact List.take_prefix _ _
  · have e : upf P T (P T ++ [r]) t = P t := if_neg h
    rw [e]
    refine ⟨g1, g2, fun k q hk => ?_⟩
    have : rcT q ≤ t := g2 q (List.mem_of_getElem? hk)
    have e2 : upf P T (P T ++ [r]) (rcT q) = P (rcT q) := if_neg (by omega)
    rw [e2]
    exact g3 k q hk
theorem upf_grow {T : Nat} {P : Nat → List Rec} (r : Rec) (t : Nat) : P t <+: upf P T (P T ++ [r]) t := by
  unfold upf
  split
  · next e => rw [e]; exact List.prefix_append _ _
  · exact List.prefix_rfl
/-- a new term begins with a log that is there -/
theorem lgG_term {T : Nat} {P : Nat → List Rec} (hG : lgG T P) {L : List Rec} (hL : lgX T P L) : lgG (T + 1) (upf P (T + 1) L) := by
  intro t ht
  by_cases h : t = T + 1
  · subst h
    have e : upf P (T + 1) L (T + 1) = L := if_pos rfl
    rw [e]
    refine ⟨lgX_M hG hL, fun r hr => ?_, fun k r hk => ?_⟩
    · obtain ⟨k, hk⟩ := List.getElem?_of_mem hr
      exact Nat.le_succ_of_le (lgX_at hG hL hk).1
    · obtain ⟨q1, q2⟩ := lgX_at hG hL hk
      have e2 : upf P (T + 1) L (rcT r) = P (rcT r) := if_neg (by omega)
      rw [e2]; exact q2
  · have e : upf P (T + 1) L t = P t := if_neg h
    obtain ⟨g1, g2, g3⟩ := hG t (by omega)
    rw [e]
    refine ⟨g1, g2, fun k q hk => ?_⟩
    have : rcT q ≤ t := g2 q (List.mem_of_getElem? hk)
    have e2 : upf P (T + 1) L (rcT q) = P (rcT q) := if_neg (by omega)
    rw [e2]
    exact g3 k q hk
theorem lgX_term {T : Nat} {P : Nat → List Rec} {L M : List Rec} (hX : lgX T P M) : lgX (T + 1) (upf P (T + 1) L) M := by
  rcases hX with h | ⟨h1, h2⟩
  · exact Or.inl h
  · have e : upf P (T + 1) L (lgT M) = P (lgT M) := if_neg (by omega)
    exact Or.inr ⟨by omega, by rw [e]; exact h2⟩
/-- the disks behind a record: the leader's first, then those of the others -/
def shSpread (h : Shd) (l : Nat) (r : Rec) : Nat → Dk := fun x => if x < shZ h ∧ x ≠ l then dkWrite (upf (shD h) l (dkWrite (shD h l) r) x) r else upf (shD h) l (dkWrite (shD h l) r) x
/-- a leader's commit, in three roads -/
theorem shCommit_or {h : Shd} {l : Nat} (hl : shL h = nI l) (hl1 : l < 2147483648) (k n : Nat) (a b c : Int32) :
    (dkU (dkWrite (shD h l) (n, k, shT h, a, b, c)) = false ∧ shCommit h k n a b c = (false, shLose (shSetD (shTried h) (upf (shD h) l (dkWrite (shD h l) (n, k, shT h, a, b, c)))))) ∨
    (dkU (dkWrite (shD h l) (n, k, shT h, a, b, c)) = true ∧ shMost (shSetD (shTried h) (shSpread h l (n, k, shT h, a, b, c))) = true ∧ shCommit h k n a b c = (true, shSetD (shTried h) (shSpread h l (n, k, shT h, a, b, c)))) ∨
    (dkU (dkWrite (shD h l) (n, k, shT h, a, b, c)) = true ∧ shMost (shSetD (shTried h) (shSpread h l (n, k, shT h, a, b, c))) = false ∧ shCommit h k n a b c = (false, shLose (shSetD (shTried h) (shSpread h l (n, k, shT h, a, b, c))))) := by
  have e1 : shL (shTried h) = nI l := hl
  have e2 : (shL (shTried h)).toNatClampNeg = l := by rw [e1, zi_nat hl1]
  have e3 : ¬ shL (shTried h) = -1 := by rw [e1]; exact zi_ne1 hl1
  have e4 : upf (shD h) l (dkWrite (shD h l) (n, k, shT h, a, b, c)) l = dkWrite (shD h l) (n, k, shT h, a, b, c) := if_pos rfl
  unfold shCommit
  simp only []
  rw [if_neg e3, e2]
  have e5 : shD (shTried h) = shD h := rfl
  have e6 : shT (shTried h) = shT h := rfl
  have e7 : shZ (shTried h) = shZ h := rfl
  rw [e5, e6, e7, e4]
  cases hu : dkU (dkWrite (shD h l) (n, k, shT h, a, b, c))
  · left; exact ⟨rfl, if_pos rfl⟩
  · right
    rw [if_neg (by simp)]
    show (true = true ∧ _ = true ∧ (if shMost (shSetD (shTried h) (shSpread h l (n, k, shT h, a, b, c))) = true then _ else _) = _) ∨ _
    cases hm : shMost (shSetD (shTried h) (shSpread h l (n, k, shT h, a, b, c)))
    · right; exact ⟨rfl, rfl, by
        show (if shMost (shSetD (shTried h) (shSpread h l (n, k, shT h, a, b, c))) = true then _ else _) = _
        rw [hm]; exact if_neg (by simp)⟩
    · left; exact ⟨rfl, rfl, if_pos rfl⟩
theorem shSpread_l (h : Shd) (l : Nat) (r : Rec) : shSpread h l r l = dkWrite (shD h l) r := by
  unfold shSpread upf; rw [if_neg (fun q => q.2 rfl), if_pos rfl]
theorem shSpread_x (h : Shd) {l x : Nat} (r : Rec) (hx : x < shZ h) (hne : x ≠ l) : shSpread h l r x = dkWrite (shD h x) r := by
  unfold shSpread upf; rw [if_pos ⟨hx, hne⟩, if_neg hne]
theorem shSpread_any (h : Shd) {l x : Nat} (r : Rec) (hx : x < shZ h) : shSpread h l r x = dkWrite (shD h x) r := by
  by_cases hne : x = l
  · rw [hne, shSpread_l]
  · exact shSpread_x h r hx hne
theorem shCommit_core {V : List Rec → Prop} {h : Shd} {C : List Rec} {P : Nat → List Rec} {Q : Nat → Bool} (hZ : shZ h ≤ 5) (hG : lgG (shT h) P) (hV : ∀ t, t ≤ shT h → V (P t)) (hX : ∀ x, x < shZ h → lgX (shT h) P (dkL (shD h x))) (hQ1 : shZ h < 2 * ((List.range (shZ h)).filter Q).length) (hQ2 : ∀ x, x < shZ h → Q x = true → C <+: dkL (shD h x)) (hC1 : lgT C ≤ shT h) (hC2 : ∀ t, lgT C ≤ t → t ≤ shT h → C <+: P t) {l : Nat} (w1 : l < shZ h) (w2 : shL h = nI l) (w4 : ∀ x, x < shZ h → dkU (shD h x) = true → dkL (shD h x) = dkL (shD h l)) (hP : P (shT h) = dkL (shD h l)) (k n : Nat) (a b c : Int32) (hr9 : V (dkL (shD h l) ++ [(n, k, shT h, a, b, c)])) :
    ((shCommit h k n a b c).1 = true → ShR V (shCommit h k n a b c).2 (dkL (shD h l) ++ [(n, k, shT h, a, b, c)]) ∧ shL (shCommit h k n a b c).2 = shL h) ∧
    ((shCommit h k n a b c).1 = false → ShR V (shCommit h k n a b c).2 C ∧ shL (shCommit h k n a b c).2 = -1) := by
  have hl1 : l < 2147483648 := by omega
  generalize hr : ((n, k, shT h, a, b, c) : Rec) = r at hr9
  have hrT : rcT r = shT h := by rw [← hr]
  have G1 := lgG_grow hG r hrT
  have V1 : ∀ t, t ≤ shT h → V (upf P (shT h) (P (shT h) ++ [r]) t) := fun t ht => by
    unfold upf
    split
    · rw [hP]; exact hr9
    · exact hV t ht
  have pre : ∀ x, x < shZ h → dkL (shD h x) <+: dkL (shSpread h l r x) := fun x hx => by
    rw [shSpread_any h r hx]
    rcases dkWrite_or (shD h x) r with ⟨-, -, e⟩ | ⟨-, e⟩
    · rw [e]; exact List.prefix_append _ _
    · rw [e]; exact List.prefix_rfl
  have X1 : ∀ x, x < shZ h → lgX (shT h) (upf P (shT h) (P (shT h) ++ [r])) (dkL (shSpread h l r x)) := fun x hx => by
    rw [shSpread_any h r hx]
    rcases dkWrite_or (shD h x) r with ⟨-, u, e⟩ | ⟨-, e⟩
    · rw [e, w4 x hx u]
      refine Or.inr ⟨by rw [lgT_snoc, hrT]; exact Nat.le_refl _, ?_⟩
      rw [lgT_snoc, hrT, hP]
      unfold upf
      rw [if_pos rfl]
      exact List.prefix_rfl
    · rw [e]; exact lgX_up (upf_grow r) (hX x hx)
  rcases shCommit_or w2 hl1 k n a b c with ⟨u, e⟩ | ⟨u, m, e⟩ | ⟨u, m, e⟩
  · rw [hr] at u e
    rw [e]
    refine ⟨fun q => (by cases q), fun _ => ⟨?_, rfl⟩⟩
    have lg : ∀ x, dkL (upf (shD h) l (dkWrite (shD h l) r) x) = dkL (shD h x) := fun x => by
      unfold upf
      split
      · next ex =>
        rcases dkWrite_or (shD h l) r with ⟨u2, -, -⟩ | ⟨-, e2⟩
        · rw [u] at u2; cases u2
        · rw [ex]; exact e2
      · rfl
    refine ⟨hZ, P, Q, ⟨hG, hV⟩, fun x hx => ?_, ⟨hQ1, fun x hx hq => ?_⟩, ⟨hC1, hC2⟩, fun q => absurd rfl q⟩
    · show lgX (shT h) P (dkL (upf (shD h) l (dkWrite (shD h l) r) x))
      rw [lg x]; exact hX x hx
    · show C <+: dkL (upf (shD h) l (dkWrite (shD h l) r) x)
      rw [lg x]; exact hQ2 x hx hq
  · rw [hr] at u m e
    rw [e]
    refine ⟨fun _ => ⟨?_, rfl⟩, fun q => (by cases q)⟩
    have CL : dkL (shD h l) ++ [r] = dkL (shSpread h l r l) := by
      rw [shSpread_l]
      rcases dkWrite_or (shD h l) r with ⟨-, -, e2⟩ | ⟨u2, -⟩
      · rw [e2]
      · rw [u] at u2; cases u2
    have al : ∀ x, x < shZ h → dkU (shSpread h l r x) = true → dkL (shSpread h l r x) = dkL (shSpread h l r l) := fun x hx hu => by
      rw [← CL]
      rw [shSpread_any h r hx] at hu ⊢
      rcases dkWrite_or (shD h x) r with ⟨-, u3, e3⟩ | ⟨u3, -⟩
      · rw [e3, w4 x hx u3]
      · rw [hu] at u3; cases u3
    have TC : lgT (dkL (shD h l) ++ [r]) = shT h := by rw [lgT_snoc, hrT]
    refine ⟨hZ, upf P (shT h) (P (shT h) ++ [r]), fun x => dkU (shSpread h l r x), ⟨G1, V1⟩, X1, ⟨(shMost_iff _).mp m, fun x hx hq => ?_⟩, ⟨Nat.le_of_eq TC, fun t h1 h2 => ?_⟩, fun _ => ⟨l, ⟨w1, w2, ?_, al, m⟩, ?_, CL⟩⟩
    · show dkL (shD h l) ++ [r] <+: dkL (shSpread h l r x)
      rw [al x hx hq, CL]; exact List.prefix_rfl
    · have : t = shT h := by
        rw [TC] at h1
        exact Nat.le_antisymm h2 h1
      rw [this]
      unfold upf
      rw [if_pos rfl, hP]; exact List.prefix_rfl
    · show dkU (shSpread h l r l) = true
      rw [shSpread_l]; exact u
    · show upf P (shT h) (P (shT h) ++ [r]) (shT h) = dkL (shSpread h l r l)
      rw [← CL]
      unfold upf
      rw [if_pos rfl, hP]
  · rw [hr] at u m e
    rw [e]
    refine ⟨fun q => (by cases q), fun _ => ⟨?_, rfl⟩⟩
    refine ⟨hZ, upf P (shT h) (P (shT h) ++ [r]), Q, ⟨G1, V1⟩, X1, ⟨hQ1, fun x hx hq => ?_⟩, ⟨hC1, fun t h1 h2 => ?_⟩, fun q => absurd rfl q⟩
    · exact (hQ2 x hx hq).trans (pre x hx)
    · exact (hC2 t h1 h2).trans (upf_grow r t)
theorem shCommit_R {V : List Rec → Prop} {h : Shd} {C : List Rec} (hI : ShR V h C) (hl : shL h ≠ -1) (k n : Nat) (a b c : Int32) (hr9 : V (C ++ [(n, k, shT h, a, b, c)])) :
    ((shCommit h k n a b c).1 = true → ShR V (shCommit h k n a b c).2 (C ++ [(n, k, shT h, a, b, c)]) ∧ shL (shCommit h k n a b c).2 = shL h) ∧
    ((shCommit h k n a b c).1 = false → ShR V (shCommit h k n a b c).2 C ∧ shL (shCommit h k n a b c).2 = -1) := by
  obtain ⟨hZ, P, Q, ⟨hG, hV⟩, hX, ⟨hQ1, hQ2⟩, ⟨hC1, hC2⟩, hW⟩ := hI
  obtain ⟨l, ⟨w1, w2, w3, w4, w5⟩, hP, hCl⟩ := hW hl
  have q := shCommit_core hZ hG hV hX hQ1 hQ2 hC1 hC2 w1 w2 w4 hP k n a b c (by rw [← hCl]; exact hr9)
  rw [← hCl] at q
  exact q
/-! AN ELECTION -/
theorem dkAhead_iff (d l : Dk) : dkAhead d l = true ↔ (lgT (dkL l) < lgT (dkL d) ∨ (lgT (dkL d) = lgT (dkL l) ∧ (dkL l).length < (dkL d).length)) := by
  unfold dkAhead dkLast; simp
/-- the best of the first n -/
theorem shCand_go (h : Shd) : ∀ n : Nat, n ≤ 5 →
    let b := (List.range n).foldl (fun b r => if dkU (shD h r) = true ∧ (b = -1 ∨ dkAhead (shD h r) (shD h b.toNatClampNeg) = true) then Int32.ofNat r else b) (-1 : Int32)
    (b = -1 ∧ ∀ x, x < n → dkU (shD h x) = false) ∨ (∃ l, b = nI l ∧ l < n ∧ dkU (shD h l) = true ∧ ∀ x, x < n → dkU (shD h x) = true → lgT (dkL (shD h x)) < lgT (dkL (shD h l)) ∨ (lgT (dkL (shD h x)) = lgT (dkL (shD h l)) ∧ (dkL (shD h x)).length ≤ (dkL (shD h l)).length))
  | 0, _ => Or.inl ⟨rfl, fun x hx => absurd hx (Nat.not_lt_zero x)⟩
  | n + 1, hn => by
    have ih := shCand_go h n (by omega)
    simp only [List.range_succ, List.foldl_append, List.foldl_cons, List.foldl_nil] at ih ⊢
    generalize (List.range n).foldl (fun b r => if dkU (shD h r) = true ∧ (b = -1 ∨ dkAhead (shD h r) (shD h b.toNatClampNeg) = true) then Int32.ofNat r else b) (-1 : Int32) = b at ih ⊢
    rcases ih with ⟨rfl, h1⟩ | ⟨l, rfl, h1, h2, h3⟩
    · cases hu : dkU (shD h n)
      · rw [if_neg (by simp)]
        refine Or.inl ⟨rfl, fun x hx => ?_⟩
        rcases Nat.lt_succ_iff_lt_or_eq.mp hx with h4 | h4
        · exact h1 x h4
        · rw [h4]; exact hu
      · rw [if_pos ⟨rfl, Or.inl rfl⟩]
        refine Or.inr ⟨n, rfl, Nat.lt_succ_self n, hu, fun x hx hx2 => ?_⟩
        rcases Nat.lt_succ_iff_lt_or_eq.mp hx with h4 | h4
        · rw [h1 x h4] at hx2; cases hx2
        · rw [h4]; exact Or.inr ⟨rfl, Nat.le_refl _⟩
    · have el : (nI l).toNatClampNeg = l := zi_nat (by omega)
      rw [el]
      by_cases hc : dkU (shD h n) = true ∧ (nI l = -1 ∨ dkAhead (shD h n) (shD h l) = true)
      · rw [if_pos hc]
        obtain ⟨hu, ha⟩ := hc
        have ha : dkAhead (shD h n) (shD h l) = true := ha.resolve_left (zi_ne1 (by omega))
        rw [dkAhead_iff] at ha
        refine Or.inr ⟨n, rfl, Nat.lt_succ_self n, hu, fun x hx hx2 => ?_⟩
        rcases Nat.lt_succ_iff_lt_or_eq.mp hx with h4 | h4
        · have := h3 x h4 hx2
          omega
        · rw [h4]; exact Or.inr ⟨rfl, Nat.le_refl _⟩
      · rw [if_neg hc]
        refine Or.inr ⟨l, rfl, by omega, h2, fun x hx hx2 => ?_⟩
        rcases Nat.lt_succ_iff_lt_or_eq.mp hx with h4 | h4
        · exact h3 x h4 hx2
        · rw [h4] at hx2 ⊢
          have : ¬ dkAhead (shD h n) (shD h l) = true := fun q => hc ⟨hx2, Or.inr q⟩
          rw [dkAhead_iff] at this
          omega
theorem shCand_of {h : Shd} (hZ : shZ h ≤ 5) (hm : shMost h = true) : ∃ l, shCand h = nI l ∧ l < shZ h ∧ dkU (shD h l) = true ∧ ∀ x, x < shZ h → dkU (shD h x) = true → lgT (dkL (shD h x)) < lgT (dkL (shD h l)) ∨ (lgT (dkL (shD h x)) = lgT (dkL (shD h l)) ∧ (dkL (shD h x)).length ≤ (dkL (shD h l)).length) := by
  rcases shCand_go h (shZ h) hZ with ⟨-, h2⟩ | h2
  · rw [shMost_iff] at hm
    obtain ⟨x, hx, hu, -⟩ := two_halves hm hm
    rw [h2 x hx] at hu; cases hu
  · exact h2
/-- the disks, made alike the leader's -/
def shAlike (h : Shd) (l : Nat) : Nat → Dk := fun x => if x < shZ h ∧ x ≠ l ∧ dkU (shD h x) = true then dkAlike (shD h x) (shD h l) else shD h x
theorem shElect_eq {h : Shd} {l : Nat} (hl : shCand h = nI l) (hl1 : l < 2147483648) : shElect h = shCommit (shZ h, nI l, shT h + 1, shAlike h l, shN h, shF h, shO h, shQ h) 13 0 (nI l) 0 0 := by
  unfold shElect
  simp only []
  rw [hl, if_neg (zi_ne1 hl1), zi_nat hl1]
  rfl
theorem shElect_R {V : List Rec → Prop} (v0 : V []) (vp : ∀ A B, A <+: B → V B → V A) (vl : ∀ A t l, V A → V (A ++ [(0, 13, t, nI l, 0, 0)])) {h : Shd} {C : List Rec} (hI : ShR V h C) (hm : shMost h = true) :
    ∃ l, shCand h = nI l ∧ l < shZ h ∧ C <+: dkL (shD h l) ∧ V (dkL (shD h l)) ∧
    ((shElect h).1 = true → ShR V (shElect h).2 (dkL (shD h l) ++ [(0, 13, shT h + 1, nI l, 0, 0)]) ∧ shL (shElect h).2 = nI l) ∧
    ((shElect h).1 = false → ShR V (shElect h).2 C ∧ shL (shElect h).2 = -1) := by
  obtain ⟨hZ, P, Q, ⟨hG, hV⟩, hX, ⟨hQ1, hQ2⟩, ⟨hC1, hC2⟩, -⟩ := hI
  obtain ⟨l, hc, hl, hu, hb⟩ := shCand_of hZ hm
  have hl1 : l < 2147483648 := by omega
  obtain ⟨y, hy, hyu, hyQ⟩ := two_halves ((shMost_iff h).mp hm) hQ1
  have hCl : C <+: dkL (shD h l) := lg_complete hG (hX l hl) (hX y hy) (hQ2 y hy hyQ) hC2 (hb y hy hyu)
  have hVl : V (dkL (shD h l)) := by
    rcases hX l hl with e | ⟨e1, e2⟩
    · rw [e]; exact v0
    · exact vp _ _ e2 (hV _ e1)
  refine ⟨l, hc, hl, hCl, hVl, ?_⟩
  rw [shElect_eq hc hl1]
  have eL : shAlike h l l = shD h l := by
    unfold shAlike; rw [if_neg (fun q => q.2.1 rfl)]
  have al : ∀ x, x < shZ h → (shAlike h l x = shD h x ∧ (x = l ∨ dkU (shD h x) = false)) ∨ (∃ j, cpl (dkL (shD h x)) (dkL (shD h l)) ≤ j ∧ dkL (shAlike h l x) = (dkL (shD h l)).take j ∧ (dkU (shAlike h l x) = true → dkL (shAlike h l x) = dkL (shD h l))) := fun x hx => by
    unfold shAlike
    by_cases hcx : x < shZ h ∧ x ≠ l ∧ dkU (shD h x) = true
    · rw [if_pos hcx]; exact Or.inr (dkAlike_or _ _)
    · rw [if_neg hcx]
      refine Or.inl ⟨rfl, ?_⟩
      by_cases hxl : x = l
      · exact Or.inl hxl
      · refine Or.inr ?_
        cases hz : dkU (shD h x)
        · rfl
        · exact absurd ⟨hx, hxl, hz⟩ hcx
  have q := shCommit_core (h := (shZ h, nI l, shT h + 1, shAlike h l, shN h, shF h, shO h, shQ h)) (C := C) (P := upf P (shT h + 1) (dkL (shD h l))) (Q := Q) (l := l) hZ (lgG_term hG (hX l hl)) (fun t ht => by
      unfold upf
      split
      · exact hVl
      · have ht : t ≤ shT h + 1 := ht
        exact hV t (by omega))
    (fun x hx => by
      show lgX (shT h + 1) _ (dkL (shAlike h l x))
      rcases al x hx with ⟨e, -⟩ | ⟨j, -, e, -⟩
      · rw [e]; exact lgX_term (hX x hx)
      · rw [e]; exact lgX_term (lgX_take hG (hX l hl) j)) hQ1
    (fun x hx hq => by
      show C <+: dkL (shAlike h l x)
      rcases al x hx with ⟨e, -⟩ | ⟨j, hj, e, -⟩
      · rw [e]; exact hQ2 x hx hq
      · rw [e]
        have := cpl_pre C _ _ (hQ2 x hx hq) hCl
        exact List.prefix_take_iff.mpr ⟨hCl, by omega⟩) (Nat.le_succ_of_le hC1)
    (fun t h1 h2 => by
      unfold upf
      split
      · exact hCl
      · have h2 : t ≤ shT h + 1 := h2
        exact hC2 t h1 (by omega)) hl rfl
    (fun x hx hux => by
      show dkL (shAlike h l x) = dkL (shAlike h l l)
      rw [eL]
      have hux : dkU (shAlike h l x) = true := hux
      rcases al x hx with ⟨e, e2⟩ | ⟨j, -, -, e⟩
      · rcases e2 with e2 | e2
        · rw [e2, eL]
        · rw [e, e2] at hux; cases hux
      · exact e hux)
    (by show upf P (shT h + 1) (dkL (shD h l)) (shT h + 1) = dkL (shAlike h l l)
        rw [eL]; exact if_pos rfl) 13 0 (nI l) 0 0 (by show V (dkL (shAlike h l l) ++ _); rw [eL]; exact vl _ _ _ hVl)
  have e9 : dkL (shAlike h l l) = dkL (shD h l) := by rw [eL]
  refine ⟨fun h1 => ?_, q.2⟩
  have := q.1 h1
  rw [show dkL (shD ((shZ h, nI l, shT h + 1, shAlike h l, shN h, shF h, shO h, shQ h) : Shd) l) = dkL (shD h l) from e9] at this
  exact this
/-! POWER -/
theorem shLose_R {V : List Rec → Prop} {h : Shd} {C : List Rec} (hI : ShR V h C) : ShR V (shLose h) C := by
  obtain ⟨hZ, P, Q, hG, hX, hQ, hC, -⟩ := hI
  exact ⟨hZ, P, Q, hG, hX, hQ, hC, fun q => absurd rfl q⟩
/-- what the logs' invariant speaks of -/
theorem ShR_same {V : List Rec → Prop} {h h1 : Shd} {C : List Rec} (hI : ShR V h C) (e1 : shZ h1 = shZ h) (e2 : shL h1 = shL h) (e3 : shT h1 = shT h) (e4 : shD h1 = shD h) : ShR V h1 C := by
  obtain ⟨z, l, t, d, r⟩ := h
  obtain ⟨z1, l1, t1, d1, r1⟩ := h1
  cases e1; cases e2; cases e3; cases e4
  exact hI
theorem shLower_R {V : List Rec → Prop} {h : Shd} {C : List Rec} (hI : ShR V h C) {r : Nat} (hr : r < shZ h) : ShR V (shLower h r) C := by
  obtain ⟨hZ, P, Q, hG, hX, ⟨hQ1, hQ2⟩, hC, hW⟩ := hI
  have lg : ∀ x, dkL (upf (shD h) r (dkL (shD h r), false, -1, dkT (shD h r), dkR (shD h r)) x) = dkL (shD h x) := fun x => by
    unfold upf
    split
    · next e => rw [e]
    · rfl
  have base : ∀ h1 : Shd, shZ h1 = shZ h → shT h1 = shT h → shD h1 = upf (shD h) r (dkL (shD h r), false, -1, dkT (shD h r), dkR (shD h r)) → (shL h1 ≠ -1 → ∃ l, ShW h1 l ∧ P (shT h1) = dkL (shD h1 l) ∧ C = dkL (shD h1 l)) → ShR V h1 C := by
    intro h1 e1 e2 e3 hw
    refine ⟨by rw [e1]; exact hZ, P, Q, by rw [e2]; exact hG, fun x hx => ?_, ⟨by rw [e1]; exact hQ1, fun x hx hq => ?_⟩, by rw [e2]; exact hC, hw⟩
    · rw [e3, lg, e2]; exact hX x (by rw [← e1]; exact hx)
    · rw [e3, lg]; exact hQ2 x (by rw [← e1]; exact hx) hq
  unfold shLower
  simp only []
  split
  · exact base _ rfl rfl rfl (fun q => absurd rfl q)
  · next hc =>
    refine base _ rfl rfl rfl (fun q => ?_)
    obtain ⟨l, ⟨w1, w2, w3, w4, w5⟩, hP, hCl⟩ := hW q
    have hne : l ≠ r := fun e => hc (Or.inl (by rw [w2, e]; rfl))
    have el : upf (shD h) r (dkL (shD h r), false, -1, dkT (shD h r), dkR (shD h r)) l = shD h l := if_neg hne
    refine ⟨l, ⟨w1, w2, ?_, fun x hx hu => ?_, ?_⟩, ?_, ?_⟩
    · show dkU (upf (shD h) r _ l) = true
      rw [el]; exact w3
    · show dkL (upf (shD h) r _ x) = dkL (upf (shD h) r _ l)
      rw [lg, lg]
      have hu : dkU (upf (shD h) r (dkL (shD h r), false, -1, dkT (shD h r), dkR (shD h r)) x) = true := hu
      by_cases hxr : x = r
      · unfold upf at hu
        rw [if_pos hxr] at hu
        cases hu
      · unfold upf at hu
        rw [if_neg hxr] at hu
        exact w4 x hx hu
    · cases hm : shMost (shSetD h (upf (shD h) r (dkL (shD h r), false, -1, dkT (shD h r), dkR (shD h r))))
      · exact absurd (Or.inr hm) hc
      · rfl
    · show P (shT h) = dkL (upf (shD h) r _ l)
      rw [el]; exact hP
    · show C = dkL (upf (shD h) r _ l)
      rw [el]; exact hCl
theorem shRaise_R {V : List Rec → Prop} {h : Shd} {C : List Rec} (hI : ShR V h C) {r : Nat} (hr : r < shZ h) (hd : dkU (shD h r) = false) : ShR V (shRaise h r) C := by
  obtain ⟨hZ, P, Q, hG, hX, ⟨hQ1, hQ2⟩, hC, hW⟩ := hI
  unfold shRaise
  simp only []
  cases hw : shWorks h
  · have hl : shL h = -1 := by
      unfold shWorks at hw
      have := of_decide_eq_false hw
      exact Classical.not_not.mp this
    simp only [Bool.false_eq_true, if_false]
    have lg : ∀ x, dkL (upf (shD h) r (dkL (shD h r), true, dkF (shD h r), 0, dkR (shD h r)) x) = dkL (shD h x) := fun x => by
      unfold upf
      split
      · next e => rw [e]
      · rfl
    refine ⟨hZ, P, Q, hG, fun x hx => ?_, ⟨hQ1, fun x hx hq => ?_⟩, hC, fun q => absurd hl q⟩
    · show lgX (shT h) P (dkL (upf (shD h) r _ x))
      rw [lg]; exact hX x hx
    · show C <+: dkL (upf (shD h) r _ x)
      rw [lg]; exact hQ2 x hx hq
  · have hl : shL h ≠ -1 := by
      unfold shWorks at hw
      exact of_decide_eq_true hw
    simp only [if_true]
    obtain ⟨l, ⟨w1, w2, w3, w4, w5⟩, hP, hCl⟩ := hW hl
    have hne : l ≠ r := fun e => by rw [e, hd] at w3; cases w3
    rw [w2, zi_nat (by omega : l < 2147483648)]
    obtain ⟨j, hj, e1, e2⟩ := dkAlike_or (dkL (shD h r), true, dkF (shD h r), 0, dkR (shD h r)) (shD h l)
    generalize dkAlike (dkL (shD h r), true, dkF (shD h r), 0, dkR (shD h r)) (shD h l) = D at e1 e2
    have er : ∀ x, x ≠ r → upf (shD h) r D x = shD h x := fun x hx => if_neg hx
    have er1 : upf (shD h) r D r = D := if_pos rfl
    refine ⟨hZ, P, Q, hG, fun x hx => ?_, ⟨hQ1, fun x hx hq => ?_⟩, hC, fun _ => ⟨l, ⟨w1, w2, ?_, fun x hx hu => ?_, ?_⟩, ?_, ?_⟩⟩
    · show lgX (shT h) P (dkL (upf (shD h) r D x))
      by_cases hxr : x = r
      · rw [hxr, er1, e1]; exact lgX_take hG.1 (hX l w1) j
      · rw [er x hxr]; exact hX x hx
    · show C <+: dkL (upf (shD h) r D x)
      by_cases hxr : x = r
      · rw [hxr] at hq ⊢
        rw [er1, e1]
        have hcl : C <+: dkL (shD h l) := by rw [hCl]; exact List.prefix_rfl
        have h2 : C.length ≤ cpl (dkL (shD h r)) (dkL (shD h l)) := cpl_pre C _ _ (hQ2 r hr hq) hcl
        have hj : cpl (dkL (shD h r)) (dkL (shD h l)) ≤ j := hj
        exact List.prefix_take_iff.mpr ⟨hcl, by omega⟩
      · rw [er x hxr]; exact hQ2 x hx hq
    · show dkU (upf (shD h) r D l) = true
      rw [er l hne]; exact w3
    · show dkL (upf (shD h) r D x) = dkL (upf (shD h) r D l)
      have hu : dkU (upf (shD h) r D x) = true := hu
      rw [er l hne]
      by_cases hxr : x = r
      · rw [hxr, er1] at hu ⊢
        exact e2 hu
      · rw [er x hxr] at hu ⊢
        exact w4 x hx hu
    · rw [shMost_iff] at w5 ⊢
      refine half_mono (fun x hx hu => ?_) w5
      show dkU (upf (shD h) r D x) = true
      by_cases hxr : x = r
      · rw [hxr, hd] at hu; cases hu
      · rw [er x hxr]; exact hu
    · show P (shT h) = dkL (upf (shD h) r D l)
      rw [er l hne]; exact hP
    · show C = dkL (upf (shD h) r D l)
      rw [er l hne]; exact hCl
theorem shRenew_R {V : List Rec → Prop} (v0 : V []) {h : Shd} {C : List Rec} (hI : ShR V h C) {z : Nat} (hz3 : 3 ≤ z) (hz5 : z ≤ 5) (hok : (shRenew h z).1 = true) : C = [] ∧ ShR V (shRenew h z).2 [] := by
  obtain ⟨hZ, P, Q, hG, hX, ⟨hQ1, hQ2⟩, hC, hW⟩ := hI
  unfold shRenew at hok ⊢
  split at hok
  · cases hok
  · next hc =>
    rw [if_neg hc]
    have hT : shT h = 0 := Classical.not_not.mp (fun q => hc (Or.inr q))
    have hE : ∀ x, x < shZ h → dkL (shD h x) = [] := fun x hx => by
      have h1 : ¬ (List.range (shZ h)).any (fun r => decide (0 < (dkL (shD h r)).length)) = true := fun q => hc (Or.inl q)
      rw [List.any_eq_true] at h1
      have h2 : ¬ 0 < (dkL (shD h x)).length := fun q => h1 ⟨x, List.mem_range.mpr hx, decide_eq_true q⟩
      exact List.length_eq_zero_iff.mp (by omega)
    have hCn : C = [] := by
      obtain ⟨x, hx, hq, -⟩ := two_halves hQ1 hQ1
      have := hQ2 x hx hq
      rw [hE x hx] at this
      exact List.prefix_nil.mp this
    have cnt : z < 2 * ((List.range z).filter (fun r => dkU ((fun x => if x < 5 then (([], true, -1, 0, dkR (shD h x)) : Dk) else shD h x) r))).length := by
      have : (List.range z).filter (fun r => dkU ((fun x => if x < 5 then (([], true, -1, 0, dkR (shD h x)) : Dk) else shD h x) r)) = List.range z := by
        rw [List.filter_eq_self]
        intro x hx
        have hx : x < z := List.mem_range.mp hx
        show dkU (if x < 5 then _ else _) = true
        rw [if_pos (by omega)]
      rw [this, List.length_range]
      omega
    have em : ∀ x, x < z → dkL ((fun x => if x < 5 then (([], true, -1, 0, dkR (shD h x)) : Dk) else shD h x) x) = [] := fun x hx => by
      show dkL (if x < 5 then _ else _) = []
      rw [if_pos (by omega)]
    refine ⟨hCn, hz5, fun _ => [], fun r => dkU ((fun x => if x < 5 then (([], true, -1, 0, dkR (shD h x)) : Dk) else shD h x) r), ⟨fun t _ => ⟨List.Pairwise.nil, fun r hr => (by cases hr), fun k r hk => (by cases hk)⟩, fun _ _ => v0⟩, fun x hx => Or.inl (em x hx), ⟨cnt, fun x hx _ => List.nil_prefix⟩, ⟨Nat.zero_le _, fun t _ _ => List.nil_prefix⟩, fun _ => ⟨0, ⟨?_, rfl, ?_, fun x hx _ => ?_, ?_⟩, ?_, ?_⟩⟩
    · show 0 < z; omega
    · rfl
    · show dkL _ = dkL _
      rw [em x hx, em 0 (by omega)]
    · rw [shMost_iff]; exact cnt
    · exact (em 0 (by omega)).symm
    · exact (em 0 (by omega)).symm
