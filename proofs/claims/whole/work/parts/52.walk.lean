/-! HOW A WORKFLOW WALKS -/
/-- it waits, has ended, or needs an event -/
def wkDone (P : Prg) (o : Int32) (w : Wkr) : Prop := wkP w ≠ 5 ∨ (wkWish P o 0 w).isSome = true
theorem wkWish_now (P : Prg) (o a b : Int32) (w : Wkr) : (wkWish P o a w).isSome = (wkWish P o b w).isSome := by
  unfold wkWish
  simp only []
  repeat' split
  all_goals rfl
theorem wkWish_kind (P : Prg) (o a b : Int32) (w : Wkr) : (wkWish P o a w).map (fun q => q.1) = (wkWish P o b w).map (fun q => q.1) := by
  unfold wkWish
  simp only []
  repeat' split
  all_goals rfl
theorem wkRun_now (P : Prg) (o a b : Int32) (es : List Evt) : ∀ (n : Nat) (w : Wkr), (wkRun P o a es n w).2 = (wkRun P o b es n w).2
  | 0, w => rfl
  | n + 1, w => by
    unfold wkRun
    split
    · rfl
    · have h := wkWish_now P o a b w
      cases ha : wkWish P o a w with
      | none =>
        rw [ha] at h
        cases hb : wkWish P o b w with
        | none => exact wkRun_now P o a b es n _
        | some k => rw [hb] at h; cases h
      | some k =>
        rw [ha] at h
        cases hb : wkWish P o b w with
        | none => rw [hb] at h; cases h
        | some k2 => rfl
theorem wkRun_done {P : Prg} {o now : Int32} {es : List Evt} {w : Wkr} (h : wkDone P o w) : ∀ n : Nat, wkRun P o now es (n + 1) w = ((if wkP w ≠ 5 then none else wkWish P o now w), w) := by
  intro n
  unfold wkRun
  split
  · rfl
  · next h1 =>
    have h2 : (wkWish P o now w).isSome = true := by
      rw [wkWish_now P o now 0]
      exact h.resolve_left h1
    cases hb : wkWish P o now w with
    | none => rw [hb] at h2; cases h2
    | some k => rfl
theorem wkWalk_or (P : Prg) (es : List Evt) (w : Wkr) : (wkN (wkWalk P es w) = wkN w + 1 ∧ wkP (wkWalk P es w) = wkP w) ∨ wkP (wkWalk P es w) = 2 ∨ wkP (wkWalk P es w) = 3 := by
  unfold wkWalk
  simp only []
  repeat' split
  all_goals first | exact Or.inl ⟨rfl, rfl⟩ | exact Or.inr (Or.inl rfl) | exact Or.inr (Or.inr rfl)
/-- with enough turns it comes to where it waits, has ended, or needs an event -/
theorem wkRun_end (P : Prg) (o now : Int32) (es : List Evt) : ∀ (n : Nat) (w : Wkr), 200 < wkN w + n → wkDone P o (wkRun P o now es n w).2
  | 0, w, h => by
    show wkDone P o w
    by_cases h5 : wkP w = 5
    · refine Or.inr ?_
      unfold wkWish
      split
      · rfl
      · rw [if_pos (by omega)]; rfl
    · exact Or.inl h5
  | n + 1, w, h => by
    unfold wkRun
    split
    · next h5 => exact Or.inl h5
    · next h5 =>
      cases hb : wkWish P o now w with
      | some k => exact Or.inr (by rw [wkWish_now P o 0 now, hb]; rfl)
      | none =>
        show wkDone P o (wkRun P o now es n (wkWalk P es w)).2
        rcases wkWalk_or P es w with ⟨h1, -⟩ | h1
        · exact wkRun_end P o now es n _ (by omega)
        · have h2 : wkP (wkWalk P es w) ≠ 5 := by omega
          cases n with
          | zero => exact Or.inl h2
          | succ n => rw [wkRun_done (Or.inl h2)]; exact Or.inl h2
theorem wkRun_ok (P : Prg) (o now : Int32) (es : List Evt) (w : Wkr) : wkDone P o (wkRun P o now es 201 w).2 := wkRun_end P o now es 201 w (by omega)
/-- run again, it stands where it stood -/
theorem wkRun_again (P : Prg) (o a b : Int32) (es : List Evt) (w : Wkr) : (wkRun P o a es 201 (wkRun P o b es 201 w).2).2 = (wkRun P o b es 201 w).2 := by
  rw [wkRun_done (wkRun_ok P o b es w)]
/-- what a run asks for, from where it has come to stand -/
theorem wkRun_wish (P : Prg) (o now : Int32) (es : List Evt) : ∀ (n : Nat) (w : Wkr), 200 ≤ wkN w + n → (wkRun P o now es (n + 1) w).1 = if wkP (wkRun P o now es (n + 1) w).2 ≠ 5 then none else wkWish P o now (wkRun P o now es (n + 1) w).2
  | n, w, h => by
    by_cases hd : wkDone P o w
    · rw [wkRun_done hd]
    · have h5 : ¬ wkP w ≠ 5 := fun q => hd (Or.inl q)
      have hw : wkWish P o now w = none := by
        cases hb : wkWish P o now w with
        | none => rfl
        | some k => exact absurd (Or.inr (by rw [wkWish_now P o 0 now, hb]; rfl)) hd
      have e : wkRun P o now es (n + 1) w = wkRun P o now es n (wkWalk P es w) := by
        conv => lhs; unfold wkRun
        rw [if_neg h5, hw]
      rw [e]
      cases n with
      | zero =>
        exfalso
        unfold wkWish at hw
        split at hw
        · cases hw
        · rw [if_pos (by omega)] at hw; cases hw
      | succ n =>
        rcases wkWalk_or P es w with ⟨h1, -⟩ | h1
        · exact wkRun_wish P o now es n _ (by omega)
        · have h2 : wkP (wkWalk P es w) ≠ 5 := by omega
          rw [wkRun_done (Or.inl h2)]
/-! What the events make of it: when k of them are taken -/
def rpO (es : List Evt) : Int32 := (evAt es 0).2.2.2
def rpl (P : Prg) (es : List Evt) : Nat → Wkr
  | 0 => (fun _ => 0, 0, 0, 4, 0, 0, 0, 0)
  | 1 => (upf (fun _ => 0) 0 (evAt es 0).2.2.1, 0, 0, 5, 0, 0, 0, 0)
  | k + 2 => wkTake P (wkRun P (rpO es) 0 (es.take (k + 1)) 201 (rpl P es (k + 1))).2 (evAt es (k + 1))
theorem evAt_snoc {es : List Evt} {e : Evt} {k : Nat} (h : k < es.length) : evAt (es ++ [e]) k = evAt es k := by
  unfold evAt; rw [List.getD_eq_getElem?_getD, List.getD_eq_getElem?_getD, List.getElem?_append_left h]
theorem evAt_last (es : List Evt) (e : Evt) : evAt (es ++ [e]) es.length = e := by
  unfold evAt; simp
theorem rpl_snoc (P : Prg) {es : List Evt} (e : Evt) (h0 : 0 < es.length) : ∀ k, k ≤ es.length → rpl P (es ++ [e]) k = rpl P es k
  | 0, _ => rfl
  | 1, _ => by unfold rpl; rw [evAt_snoc h0]
  | k + 2, hk => by
    unfold rpl
    have e1 : rpO (es ++ [e]) = rpO es := by unfold rpO; rw [evAt_snoc h0]
    rw [e1, evAt_snoc (by omega), List.take_append_of_le_length (by omega), rpl_snoc P e h0 (k + 1) (by omega)]
/-- the workflow that has taken all, and not gone on; and that has -/
def rpA (P : Prg) (es : List Evt) : Wkr := rpl P es es.length
def rpR (P : Prg) (es : List Evt) : Wkr := (wkRun P (rpO es) 0 es 201 (rpA P es)).2
theorem rpA_one (P : Prg) (e : Evt) : rpA P [e] = (upf (fun _ => 0) 0 e.2.2.1, 0, 0, 5, 0, 0, 0, 0) := rfl
theorem rpA_snoc (P : Prg) {es : List Evt} (e : Evt) (h0 : 0 < es.length) : rpA P (es ++ [e]) = wkTake P (rpR P es) e := by
  unfold rpA rpR
  rw [List.length_append]
  obtain ⟨k, hk⟩ : ∃ k, es.length = k + 1 := ⟨es.length - 1, by omega⟩
  have : es.length + [e].length = k + 2 := by rw [hk]; rfl
  rw [this]
  show wkTake P (wkRun P (rpO (es ++ [e])) 0 ((es ++ [e]).take (k + 1)) 201 (rpl P (es ++ [e]) (k + 1))).2 (evAt (es ++ [e]) (k + 1)) = _
  have e1 : rpO (es ++ [e]) = rpO es := by unfold rpO; rw [evAt_snoc h0]
  rw [e1, ← hk, evAt_last, rpl_snoc P e h0 es.length (Nat.le_refl _), List.take_append_of_le_length (Nat.le_refl _), List.take_length]
  rfl
/-! HISTORIES THAT CAN BE -/
def evOK (P : Prg) (es : List Evt) (e : Evt) : Prop := wkP (rpR P es) ≠ 4 ∧ e.1 < 13 ∧ e.1 ≠ 0 ∧ (e.1 = 12 ∨ (e.1 = 11 ∧ wkP (rpR P es) ≠ 5) ∨ (wkP (rpR P es) = 5 ∧ ∃ now, wkWish P (rpO es) now (rpR P es) = some (e.1, e.2.1, e.2.2.1)) ∨ (wkP (rpR P es) = 0 ∧ (e.1 = 2 ∨ e.1 = 3)) ∨ (wkP (rpR P es) = 1 ∧ e.1 = 5) ∨ (wkP (rpR P es) ≠ 5 ∧ (e.1 = 7 ∨ e.1 = 8)))
def hsOK (P : Prg) (es : List Evt) : Prop := 0 < es.length ∧ es.length ≤ 60 ∧ (evAt es 0).1 = 0 ∧ ∀ k, 1 ≤ k → k < es.length → evOK P (es.take k) (evAt es k)
/-- when k events are taken: before and behind the steps that follow -/
def hA (P : Prg) (es : List Evt) (k : Nat) : Wkr := rpA P (es.take k)
def hR (P : Prg) (es : List Evt) (k : Nat) : Wkr := rpR P (es.take k)
theorem take_snoc {es : List Evt} {k : Nat} (h : k < es.length) : es.take (k + 1) = es.take k ++ [evAt es k] := by
  rw [List.take_add_one]
  congr 1
  unfold evAt
  rw [List.getD_eq_getElem?_getD, List.getElem?_eq_getElem h]
  rfl
theorem hA_next {P : Prg} {es : List Evt} {k : Nat} (h1 : 1 ≤ k) (h : k < es.length) : hA P es (k + 1) = wkTake P (hR P es k) (evAt es k) := by
  unfold hA hR
  rw [take_snoc h, rpA_snoc P _ (by rw [List.length_take]; omega)]
theorem hR_all (P : Prg) (es : List Evt) : hR P es es.length = rpR P es := by unfold hR; rw [List.take_length]
theorem hR_def (P : Prg) (es : List Evt) (k : Nat) : hR P es k = (wkRun P (rpO (es.take k)) 0 (es.take k) 201 (hA P es k)).2 := rfl
theorem rpO_take {es : List Evt} {k : Nat} (h1 : 1 ≤ k) : rpO (es.take k) = rpO es := by
  unfold rpO evAt
  rw [List.getD_eq_getElem?_getD, List.getD_eq_getElem?_getD, List.getElem?_take_of_lt (by omega)]
/-- it stands still where it waits -/
theorem hR_wait {P : Prg} {es : List Evt} {k : Nat} (h : wkP (hA P es k) ≠ 5) : hR P es k = hA P es k := by
  rw [hR_def, wkRun_done (Or.inl h)]
/-- what an event is that comes while it waits -/
theorem evOK_wait {P : Prg} {es : List Evt} {e : Evt} (h : evOK P es e) (hw : wkP (rpR P es) ≠ 5) : 10 < e.1 ∨ (wkP (rpR P es) = 0 ∧ (e.1 = 2 ∨ e.1 = 3)) ∨ (wkP (rpR P es) = 1 ∧ e.1 = 5) ∨ e.1 = 7 ∨ e.1 = 8 := by
  obtain ⟨-, h1, h2, h3⟩ := h
  rcases h3 with h | ⟨h, -⟩ | ⟨h, -⟩ | h | h | ⟨-, h⟩
  · omega
  · omega
  · exact absurd h hw
  · exact Or.inr (Or.inl h)
  · exact Or.inr (Or.inr (Or.inl h))
  · omega
/-! PROGRAMS AND WALKERS THAT CAN BE -/
def vlQ (q : Int32 × Int32) : Prop := q.1 = -1 ∨ ∃ v, v < 8 ∧ q.1 = nI v
/-- a letter that sets a place of the locals -/
def stSets (c : Int32) : Prop := c = 43 ∨ c = 45 ∨ c = 42 ∨ c = 60 ∨ c = 61 ∨ c = 65 ∨ c = 87 ∨ c = 67 ∨ c = 74
def prgOK (P : Prg) : Prop := P.length ≤ 60 ∧ ∀ j, j < P.length → vlQ (stpAt P j).2.2.2.1 ∧ vlQ (stpAt P j).2.2.2.2 ∧ ((stSets (stpAt P j).1 ∧ ∃ v, v < 8 ∧ (stpAt P j).2.1 = nI v) ∨ (((stpAt P j).1 = 71 ∨ (stpAt P j).1 = 73) ∧ ∃ g, g ≤ P.length ∧ (stpAt P j).2.1 = nI g) ∨ (stpAt P j).1 = 84 ∨ (stpAt P j).1 = 83 ∨ (stpAt P j).1 = 69)
/-- how many signals there are -/
def sigs (es : List Evt) : Nat := (es.filter (fun e => decide (e.1 = 8))).length
theorem plcOf_lt : ∀ {es : List Evt} {n d : Nat}, plcOf 8 es n = some d → n < sigs es
  | [], n, d, h => by cases h
  | e :: r, n, d, h => by
    unfold plcOf at h
    unfold sigs
    rw [List.filter_cons]
    by_cases c : e.1 = 8
    · rw [if_pos c] at h
      rw [if_pos (decide_eq_true c), List.length_cons]
      cases n with
      | zero => exact Nat.zero_lt_succ _
      | succ n =>
        have h : (plcOf 8 r n).map (· + 1) = some d := h
        cases hz : plcOf 8 r n with
        | none => rw [hz] at h; cases h
        | some x => exact Nat.succ_lt_succ (plcOf_lt hz)
    · rw [if_neg c] at h
      rw [if_neg (by simp [c])]
      cases hz : plcOf 8 r n with
      | none => rw [hz] at h; cases h
      | some x => exact plcOf_lt hz
theorem sigs_le (es : List Evt) : sigs es ≤ es.length := List.length_filter_le _ _
theorem sigs_snoc (es : List Evt) (e : Evt) : sigs (es ++ [e]) = sigs es + if e.1 = 8 then 1 else 0 := by
  unfold sigs
  rw [List.filter_append, List.length_append]
  congr 1
  by_cases c : e.1 = 8 <;> simp [c]
/-- a walker with k events behind it -/
def wkG (P : Prg) (es : List Evt) (W : Wkr) : Prop := wkS W ≤ P.length ∧ wkN W ≤ 200 ∧ wkT W ≤ sigs es ∧ wkC W ≤ es.length ∧ wkP W ≤ 5 ∧
  (wkP W = 0 → wkS W < P.length ∧ (stpAt P (wkS W)).1 = 65) ∧ (wkP W = 1 → wkS W < P.length ∧ (stpAt P (wkS W)).1 = 84) ∧ (wkP W = 2 → wkS W < P.length ∧ (stpAt P (wkS W)).1 = 87) ∧ (wkP W = 3 → wkS W < P.length ∧ (stpAt P (wkS W)).1 = 74)
theorem wkG_mk {P : Prg} {es : List Evt} {U : Wkr} (c : Nat) (hp : wkP U = c) (hc : c ≤ 5) (a1 : wkS U ≤ P.length) (a2 : wkN U ≤ 200) (a3 : wkT U ≤ sigs es) (a4 : wkC U ≤ es.length) (r0 : c = 0 → wkS U < P.length ∧ (stpAt P (wkS U)).1 = 65) (r1 : c = 1 → wkS U < P.length ∧ (stpAt P (wkS U)).1 = 84) (r2 : c = 2 → wkS U < P.length ∧ (stpAt P (wkS U)).1 = 87) (r3 : c = 3 → wkS U < P.length ∧ (stpAt P (wkS U)).1 = 74) : wkG P es U :=
  ⟨a1, a2, a3, a4, by omega, fun q => r0 (by omega), fun q => r1 (by omega), fun q => r2 (by omega), fun q => r3 (by omega)⟩
theorem wkG_walk {P : Prg} {es : List Evt} {W : Wkr} {o : Int32} (hP : prgOK P) (h : wkG P es W) (h5 : wkP W = 5) (hw : wkWish P o 0 W = none) : wkG P es (wkWalk P es W) := by
  obtain ⟨g1, g2, g3, g4, g5, -⟩ := h
  have hS : wkS W < P.length := by
    unfold wkWish at hw
    split at hw
    · cases hw
    · omega
  have hN : wkN W < 200 := by
    unfold wkWish at hw
    rw [if_neg (by omega)] at hw
    split at hw
    · cases hw
    · omega
  obtain ⟨-, -, hq⟩ := hP.2 _ hS
  unfold wkWalk
  simp only []
  have five : ∀ U : Wkr, wkS U ≤ P.length → wkN U ≤ 200 → wkT U ≤ sigs es → wkC U ≤ es.length → wkP U = 5 → wkG P es U := fun U a1 a2 a3 a4 a5 => ⟨a1, a2, a3, a4, by omega, by omega, by omega, by omega, by omega⟩
  split
  · next c =>
    refine five _ ?_ (show wkN W + 1 ≤ 200 by omega) g3 g4 h5
    show (stpAt P (wkS W)).2.1.toNatClampNeg ≤ P.length
    rcases hq with ⟨hq, -⟩ | ⟨-, g, hg, eg⟩ | hq
    · rw [c] at hq; unfold stSets at hq; exact absurd hq (by decide)
    · rw [eg, zi_nat (by have := hP.1; omega)]; exact hg
    · rw [c] at hq; exact absurd hq (by decide)
  · split
    · next c =>
      refine five _ ?_ (show wkN W + 1 ≤ 200 by omega) g3 g4 h5
      have gl : (stpAt P (wkS W)).2.1.toNatClampNeg ≤ P.length := by
        rcases hq with ⟨hq, -⟩ | ⟨-, g, hg, eg⟩ | hq
        · rw [c] at hq; unfold stSets at hq; exact absurd hq (by decide)
        · rw [eg, zi_nat (by have := hP.1; omega)]; exact hg
        · rw [c] at hq; exact absurd hq (by decide)
      show (if _ then (stpAt P (wkS W)).2.1.toNatClampNeg else wkS W + 1) ≤ P.length
      have gl2 : wkS W + 1 ≤ P.length := by omega
      split
      · exact gl
      · exact gl2
    · split
      · exact five _ (show wkS W + 1 ≤ P.length by omega) (show wkN W + 1 ≤ 200 by omega) g3 g4 h5
      · split
        · next c =>
          split
          · next hz => exact wkG_mk 2 rfl (by decide) g1 g2 g3 g4 (fun q => absurd q (by decide)) (fun q => absurd q (by decide)) (fun _ => ⟨hS, c⟩) (fun q => absurd q (by decide))
          · next d hz =>
            have := plcOf_lt hz
            exact five _ (show wkS W + 1 ≤ P.length by omega) (show wkN W + 1 ≤ 200 by omega) (show wkT W + 1 ≤ sigs es by omega) g4 h5
        · split
          · next c =>
            split
            · split
              · next hz => exact wkG_mk 3 rfl (by decide) g1 g2 g3 g4 (fun q => absurd q (by decide)) (fun q => absurd q (by decide)) (fun q => absurd q (by decide)) (fun _ => ⟨hS, c⟩)
              · exact five _ (show wkS W + 1 ≤ P.length by omega) (show wkN W + 1 ≤ 200 by omega) g3 g4 h5
            · exact five _ (show wkS W + 1 ≤ P.length by omega) (show wkN W + 1 ≤ 200 by omega) g3 g4 h5
          · exact five _ (show wkS W + 1 ≤ P.length by omega) (show wkN W + 1 ≤ 200 by omega) g3 g4 h5
theorem wkG_run {P : Prg} {es : List Evt} {o : Int32} (hP : prgOK P) : ∀ (n : Nat) (W : Wkr), wkG P es W → wkG P es (wkRun P o 0 es n W).2
  | 0, W, h => h
  | n + 1, W, h => by
    unfold wkRun
    split
    · exact h
    · next h5 =>
      have h5 : wkP W = 5 := Classical.not_not.mp h5
      cases hw : wkWish P o 0 W with
      | some k => exact h
      | none => exact wkG_run hP n _ (wkG_walk hP h h5 hw)
theorem wkWish_lt {P : Prg} {o now : Int32} {W : Wkr} {k : Nat} {a b : Int32} (h : wkWish P o now W = some (k, a, b)) (hk : k < 10) : wkS W < P.length ∧ ((k = 1 ∧ (stpAt P (wkS W)).1 = 65) ∨ (k = 4 ∧ (stpAt P (wkS W)).1 = 84) ∨ (k = 6 ∧ (stpAt P (wkS W)).1 = 67) ∨ (k = 9 ∧ (stpAt P (wkS W)).1 = 83)) := by
  unfold wkWish at h
  split at h
  · cases h; omega
  · next c =>
    refine ⟨by omega, ?_⟩
    simp only [] at h
    split at h
    · cases h; omega
    · split at h
      · next c1 => cases h; exact Or.inl ⟨rfl, c1⟩
      · split at h
        · next c1 => cases h; exact Or.inr (Or.inl ⟨rfl, c1⟩)
        · split at h
          · next c1 => cases h; exact Or.inr (Or.inr (Or.inl ⟨rfl, c1⟩))
          · split at h
            · next c1 =>
              split at h
              · cases h; exact Or.inr (Or.inr (Or.inr ⟨rfl, c1⟩))
              · cases h
            · split at h
              · cases h; omega
              · cases h
/-- what an event is that comes while it needs one -/
theorem evOK_wish {P : Prg} {es : List Evt} {e : Evt} (h : evOK P es e) (hw : wkP (rpR P es) = 5) : e.1 = 12 ∨ ∃ now, wkWish P (rpO es) now (rpR P es) = some (e.1, e.2.1, e.2.2.1) := by
  obtain ⟨-, h1, h2, h3⟩ := h
  rcases h3 with h | ⟨-, h⟩ | ⟨-, h⟩ | ⟨h, -⟩ | ⟨h, -⟩ | ⟨h, -⟩
  · exact Or.inl h
  · exact absurd hw h
  · exact Or.inr h
  · omega
  · omega
  · exact absurd hw h
theorem wkG_take {P : Prg} {es : List Evt} {e : Evt} (hP : prgOK P) (h : wkG P es (rpR P es)) (ok : evOK P es e) : wkG P (es ++ [e]) (wkTake P (rpR P es) e) := by
  have sn := sigs_snoc es e
  have ln : (es ++ [e]).length = es.length + 1 := by simp
  by_cases h5 : wkP (rpR P es) = 5
  · have ow := evOK_wish ok h5
    generalize rpR P es = W at h h5 ow
    obtain ⟨g1, g2, g3, g4, g5, -⟩ := h
    have over : 10 ≤ e.1 → wkG P (es ++ [e]) (wkTake P W e) := fun he => by
      unfold wkTake
      rw [if_neg (by omega), if_neg (by omega), if_neg (by omega), if_neg (by omega), if_neg (by omega), if_neg (by omega), if_neg (by omega), if_neg (by omega)]
      exact wkG_mk 4 rfl (by decide) g1 g2 (by show wkT W ≤ _; omega) (by show wkC W ≤ _; omega) (fun q => absurd q (by decide)) (fun q => absurd q (by decide)) (fun q => absurd q (by decide)) (fun q => absurd q (by decide))
    rcases ow with he | ⟨now, hw⟩
    · exact over (by omega)
    · by_cases h10 : 10 ≤ e.1
      · exact over h10
      · obtain ⟨hS, hk⟩ := wkWish_lt hw (by omega)
        rcases hk with ⟨hk, c⟩ | ⟨hk, c⟩ | ⟨hk, c⟩ | ⟨hk, c⟩
        · unfold wkTake
          rw [if_pos hk]
          exact wkG_mk 0 rfl (by decide) g1 g2 (by show wkT W ≤ _; omega) (by show wkC W ≤ _; omega) (fun _ => ⟨hS, c⟩) (fun q => absurd q (by decide)) (fun q => absurd q (by decide)) (fun q => absurd q (by decide))
        · unfold wkTake
          rw [if_neg (by omega), if_pos hk]
          exact wkG_mk 1 rfl (by decide) g1 g2 (by show wkT W ≤ _; omega) (by show wkC W ≤ _; omega) (fun q => absurd q (by decide)) (fun _ => ⟨hS, c⟩) (fun q => absurd q (by decide)) (fun q => absurd q (by decide))
        · unfold wkTake
          rw [if_neg (by omega), if_neg (by omega), if_pos hk]
          have hN : wkN W < 200 := by
            unfold wkWish at hw
            rw [if_neg (by omega)] at hw
            split at hw
            · have h9 : 12 = e.1 := congrArg (fun q => q.1) (Option.some.inj hw)
              omega
            · omega
          exact ⟨by show wkS W + 1 ≤ _; omega, by show wkN W + 1 ≤ _; omega, by show wkT W ≤ _; omega, by show wkC W + 1 ≤ _; omega, by show wkP W ≤ 5; omega, fun q => by have q : wkP W = 0 := q; omega, fun q => by have q : wkP W = 1 := q; omega, fun q => by have q : wkP W = 2 := q; omega, fun q => by have q : wkP W = 3 := q; omega⟩
        · unfold wkTake
          rw [if_neg (by omega), if_neg (by omega), if_neg (by omega), if_pos hk]
          have hN : wkN W < 200 := by
            unfold wkWish at hw
            rw [if_neg (by omega)] at hw
            split at hw
            · have h9 : 12 = e.1 := congrArg (fun q => q.1) (Option.some.inj hw)
              omega
            · omega
          exact ⟨by show wkS W + 1 ≤ _; omega, by show wkN W + 1 ≤ _; omega, by show wkT W ≤ _; omega, by show wkC W ≤ _; omega, by show wkP W ≤ 5; omega, fun q => by have q : wkP W = 0 := q; omega, fun q => by have q : wkP W = 1 := q; omega, fun q => by have q : wkP W = 2 := q; omega, fun q => by have q : wkP W = 3 := q; omega⟩
  · have ow := evOK_wait ok h5
    have n4 := ok.1
    generalize rpR P es = W at h h5 ow n4
    obtain ⟨g1, g2, g3, g4, g5, r0, r1, r2, r3⟩ := h
    have res : ∀ U : Wkr, wkS U ≤ P.length → wkT U ≤ sigs (es ++ [e]) → wkC U ≤ (es ++ [e]).length → wkG P (es ++ [e]) (wkResume U) := fun U a1 a2 a3 => ⟨a1, by show 0 ≤ 200; omega, a2, a3, by show 5 ≤ 5; omega, fun q => absurd q (show ¬ 5 = 0 by decide), fun q => absurd q (show ¬ 5 = 1 by decide), fun q => absurd q (show ¬ 5 = 2 by decide), fun q => absurd q (show ¬ 5 = 3 by decide)⟩
    have same : wkG P (es ++ [e]) W := ⟨g1, g2, by omega, by omega, g5, r0, r1, r2, r3⟩
    rcases ow with hk | ⟨hp, hk⟩ | ⟨hp, hk⟩ | hk | hk
    · unfold wkTake
      rw [if_neg (by omega), if_neg (by omega), if_neg (by omega), if_neg (by omega), if_neg (by omega), if_neg (by omega), if_neg (by omega), if_neg (by omega)]
      exact wkG_mk 4 rfl (by decide) g1 g2 (by show wkT W ≤ _; omega) (by show wkC W ≤ _; omega) (fun q => absurd q (by decide)) (fun q => absurd q (by decide)) (fun q => absurd q (by decide)) (fun q => absurd q (by decide))
    · unfold wkTake
      rw [if_neg (by omega), if_neg (by omega), if_neg (by omega), if_neg (by omega), if_pos hk]
      have := (r0 hp).1
      exact res _ (by show wkS W + 1 ≤ _; omega) (by show wkT W ≤ _; omega) (by show wkC W ≤ _; omega)
    · unfold wkTake
      rw [if_neg (by omega), if_neg (by omega), if_neg (by omega), if_neg (by omega), if_neg (by omega), if_pos hk]
      have := (r1 hp).1
      exact res _ (by show wkS W + 1 ≤ _; omega) (by show wkT W ≤ _; omega) (by show wkC W ≤ _; omega)
    · unfold wkTake
      rw [if_neg (by omega), if_neg (by omega), if_neg (by omega), if_neg (by omega), if_neg (by omega), if_neg (by omega), if_neg (by omega), if_pos hk]
      split
      · next c =>
        have := (r3 c.1).1
        exact res _ (by show wkS W + 1 ≤ _; omega) (by show wkT W ≤ _; omega) (by show wkC W ≤ _; omega)
      · exact same
    · unfold wkTake
      rw [if_neg (by omega), if_neg (by omega), if_neg (by omega), if_neg (by omega), if_neg (by omega), if_neg (by omega), if_pos hk]
      rw [if_pos hk] at sn
      split
      · next c =>
        have := (r2 c).1
        exact res _ (by show wkS W + 1 ≤ _; omega) (by show wkT W + 1 ≤ _; omega) (by show wkC W ≤ _; omega)
      · exact same
/-- all the walkers of a history that can be -/
theorem wkG_all {P : Prg} {es : List Evt} (hP : prgOK P) (hs : hsOK P es) : ∀ k, 1 ≤ k → k ≤ es.length → wkG P (es.take k) (hA P es k) ∧ wkG P (es.take k) (hR P es k)
  | 0, h, _ => absurd h (by decide)
  | 1, _, h => by
    have a : wkG P (es.take 1) (hA P es 1) := by
      have e1 : es.take 1 = [evAt es 0] := by rw [take_snoc (by omega)]; rfl
      unfold hA
      rw [e1]
      exact ⟨Nat.zero_le _, Nat.zero_le _, Nat.zero_le _, Nat.zero_le _, Nat.le_refl 5, fun q => absurd q (show ¬ 5 = 0 by decide), fun q => absurd q (show ¬ 5 = 1 by decide), fun q => absurd q (show ¬ 5 = 2 by decide), fun q => absurd q (show ¬ 5 = 3 by decide)⟩
    exact ⟨a, wkG_run hP 201 _ a⟩
  | k + 2, _, h => by
    obtain ⟨-, ih⟩ := wkG_all hP hs (k + 1) (by omega) (by omega)
    have ok := hs.2.2.2 (k + 1) (by omega) (by omega)
    have a : wkG P (es.take (k + 2)) (hA P es (k + 2)) := by
      rw [hA_next (by omega) (by omega), take_snoc (by omega : k + 1 < es.length)]
      exact wkG_take hP ih ok
    exact ⟨a, wkG_run hP 201 _ a⟩
