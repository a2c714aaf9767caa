/-! THE BOOK OF A LOG: workflows, their events, the messages that have no GONE, how many records -/
abbrev Bk : Type := Nat × (Nat → List Evt) × List (Nat × Nat × Nat) × Nat
abbrev bkN (b : Bk) : Nat := b.1
abbrev bkF (b : Bk) : Nat → List Evt := b.2.1
abbrev bkO (b : Bk) : List (Nat × Nat × Nat) := b.2.2.1
abbrev bkP (b : Bk) : Nat := b.2.2.2
def bkMsg (es : List Evt) (k : Nat) : Bool := decide (k = 6) || decide (k = 9) || (decide (10 ≤ k) && decide (rpO es < 0))
def rcE (r : Rec) : Evt := (rcK r, rcA r, rcB r, rcC r)
def bkStep (b : Bk) (r : Rec) : Bk :=
  if rcK r = 0 then (rcN r + 1, upf (bkF b) (rcN r) [rcE r], bkO b, bkP b + 1)
  else if rcK r = 14 then (bkN b, bkF b, (bkO b).filter (fun m => Int32.ofNat m.1 ≠ rcA r), bkP b + 1)
  else if rcK r = 15 ∨ rcK r = 13 then (bkN b, bkF b, bkO b, bkP b + 1)
  else (bkN b, upf (bkF b) (rcN r) (bkF b (rcN r) ++ [rcE r]), (if bkMsg (bkF b (rcN r)) (rcK r) = true then bkO b ++ [(bkP b, rcN r, (bkF b (rcN r)).length)] else bkO b), bkP b + 1)
def bk0 : Bk := (0, fun _ => [], [], 0)
def lgB (L : List Rec) : Bk := L.foldl bkStep bk0
theorem lgB_nil : lgB [] = bk0 := rfl
theorem lgB_snoc (L : List Rec) (r : Rec) : lgB (L ++ [r]) = bkStep (lgB L) r := by unfold lgB; rw [List.foldl_append]; rfl
theorem bkP_step (b : Bk) (r : Rec) : bkP (bkStep b r) = bkP b + 1 := by
  unfold bkStep; split
  · rfl
  · split
    · rfl
    · split <;> rfl
theorem bkP_len : ∀ (L : List Rec) (b : Bk), bkP (L.foldl bkStep b) = bkP b + L.length
  | [], b => rfl
  | r :: q, b => by
    rw [List.foldl_cons, bkP_len q, bkP_step, List.length_cons]; omega
theorem lgB_place (L : List Rec) : bkP (lgB L) = L.length := by unfold lgB; rw [bkP_len]; show 0 + _ = _; omega
/-- the program that a names -/
def prgOf (vs : Nat → List Prg) (a : Int32) : Option Prg := (vs (a.toNatClampNeg % 8))[a.toNatClampNeg / 8]?
def prgIs (vs : Nat → List Prg) (es : List Evt) (P : Prg) : Prop := prgOf vs (evAt es 0).2.1 = some P
/-- a record that may come behind a log -/
def rcOK (vs : Nat → List Prg) (b : Bk) (r : Rec) : Prop :=
  (rcK r = 0 ∧ rcN r = bkN b ∧ bkN b < 16 ∧ ¬ rcA r < 0 ∧ ∃ P, prgOf vs (rcA r) = some P) ∨
  (rcK r = 13 ∧ rcN r = 0) ∨ (rcK r = 14 ∧ rcN r = 0 ∧ ∃ p, (∃ m ∈ bkO b, m.1 = p) ∧ p < bkP b ∧ rcA r = nI p) ∨ (rcK r = 15 ∧ rcN r < bkN b ∧ ∃ k, 1 ≤ k ∧ k ≤ 4 ∧ rcA r = nI k) ∨
  (1 ≤ rcK r ∧ rcK r ≤ 12 ∧ rcN r < bkN b ∧ ((bkF b (rcN r)).length < 60 ∧ ((bkF b (rcN r)).length = 59 → 10 ≤ rcK r)) ∧ ∃ P, prgIs vs (bkF b (rcN r)) P ∧ evOK P (bkF b (rcN r)) (rcE r))
def lgV (vs : Nat → List Prg) (L : List Rec) : Prop := ∀ A r, A ++ [r] <+: L → rcOK vs (lgB A) r
theorem lgV_nil (vs : Nat → List Prg) : lgV vs [] := fun A r h => by
  have := h.length_le
  simp at this
theorem lgV_pre (vs : Nat → List Prg) : ∀ A B, A <+: B → lgV vs B → lgV vs A := fun A B h hB C r hC => hB C r (hC.trans h)
theorem pre_snoc {A L : List Rec} {r : Rec} (h : A <+: L ++ [r]) : A <+: L ∨ A = L ++ [r] := by
  by_cases c : A.length ≤ L.length
  · exact Or.inl (List.prefix_of_prefix_length_le h (List.prefix_append _ _) c)
  · refine Or.inr (h.eq_of_length_le ?_)
    rw [List.length_append]; simp; omega
theorem lgV_snoc {vs : Nat → List Prg} {L : List Rec} {r : Rec} (h : lgV vs L) (hr : rcOK vs (lgB L) r) : lgV vs (L ++ [r]) := fun A q hA => by
  rcases pre_snoc hA with hA | hA
  · exact h A q hA
  · obtain ⟨e1, e2⟩ := List.append_inj' hA rfl
    cases e2
    rw [e1]; exact hr
theorem lgV_last {vs : Nat → List Prg} {L : List Rec} {r : Rec} (h : lgV vs (L ++ [r])) : lgV vs L ∧ rcOK vs (lgB L) r := ⟨lgV_pre vs _ _ (List.prefix_append _ _) h, h L r (List.prefix_refl _)⟩
theorem lgV_lead (vs : Nat → List Prg) : ∀ A t l, lgV vs A → lgV vs (A ++ [(0, 13, t, nI l, 0, 0)]) := fun A t l h => lgV_snoc h (Or.inr (Or.inl ⟨rfl, rfl⟩))
/-- programs come, none goes -/
def vsLe (vs vs1 : Nat → List Prg) : Prop := ∀ p, vs p <+: vs1 p
theorem prgOf_le {vs vs1 : Nat → List Prg} (h : vsLe vs vs1) {a : Int32} {P : Prg} (hP : prgOf vs a = some P) : prgOf vs1 a = some P := by
  unfold prgOf at hP ⊢
  obtain ⟨t, ht⟩ := h (a.toNatClampNeg % 8)
  rw [← ht, List.getElem?_append_left (List.getElem?_eq_some_iff.mp hP).1]
  exact hP
theorem rcOK_le {vs vs1 : Nat → List Prg} (h : vsLe vs vs1) {b : Bk} {r : Rec} (q : rcOK vs b r) : rcOK vs1 b r := by
  rcases q with ⟨q1, q2, q3, q4, P, q5⟩ | q | q | q | ⟨q1, q2, q3, q4, P, q5, q6⟩
  · exact Or.inl ⟨q1, q2, q3, q4, P, prgOf_le h q5⟩
  · exact Or.inr (Or.inl q)
  · exact Or.inr (Or.inr (Or.inl q))
  · exact Or.inr (Or.inr (Or.inr (Or.inl q)))
  · exact Or.inr (Or.inr (Or.inr (Or.inr ⟨q1, q2, q3, q4, P, prgOf_le h q5, q6⟩)))
theorem lgV_le {vs vs1 : Nat → List Prg} (h : vsLe vs vs1) {L : List Rec} (q : lgV vs L) : lgV vs1 L := fun A r hA => rcOK_le h (q A r hA)
theorem ShR_le {V V1 : List Rec → Prop} (h : ∀ L, V L → V1 L) {q : Shd} {C : List Rec} (p : ShR V q C) : ShR V1 q C := by
  obtain ⟨p1, P, Q, ⟨p2, p3⟩, p4⟩ := p
  exact ⟨p1, P, Q, ⟨p2, fun t ht => h _ (p3 t ht)⟩, p4⟩
/-! What a legal log's book is -/
def bkG (vs : Nat → List Prg) (b : Bk) : Prop := bkN b ≤ 16 ∧ (∀ n, n < bkN b → ∃ P, prgIs vs (bkF b n) P ∧ hsOK P (bkF b n) ∧ ¬ (evAt (bkF b n) 0).2.1 < 0 ∧ ((bkF b n).length = 60 → wkP (rpR P (bkF b n)) = 4)) ∧
  (∀ m ∈ bkO b, m.1 < bkP b ∧ m.2.1 < bkN b ∧ m.2.2 < (bkF b m.2.1).length ∧ bkMsg (bkF b m.2.1) (evAt (bkF b m.2.1) m.2.2).1 = true) ∧ (bkO b).Pairwise (fun x y => x.1 < y.1)
theorem hsOK_one (P : Prg) (e : Evt) (h : e.1 = 0) : hsOK P [e] := ⟨by simp, by simp, h, fun k h1 h2 => by simp at h2; omega⟩
theorem hsOK_snoc {P : Prg} {es : List Evt} {e : Evt} (h : hsOK P es) (hl : es.length < 60) (ok : evOK P es e) : hsOK P (es ++ [e]) := by
  obtain ⟨h0, h1, h2, h3⟩ := h
  refine ⟨by simp, by simp; omega, by rw [evAt_snoc h0]; exact h2, fun k k1 k2 => ?_⟩
  rw [List.length_append] at k2
  simp at k2
  by_cases c : k < es.length
  · rw [List.take_append_of_le_length (by omega), evAt_snoc c]; exact h3 k k1 c
  · have ek : k = es.length := by omega
    rw [ek, List.take_append_of_le_length (Nat.le_refl _), List.take_length, evAt_last]; exact ok
theorem evAt_zero_snoc {es : List Evt} (e : Evt) (h : 0 < es.length) : evAt (es ++ [e]) 0 = evAt es 0 := evAt_snoc h
theorem rpO_snoc {es : List Evt} (e : Evt) (h : 0 < es.length) : rpO (es ++ [e]) = rpO es := by unfold rpO; rw [evAt_snoc h]
theorem bkMsg_snoc {es : List Evt} (e : Evt) (h : 0 < es.length) (k : Nat) : bkMsg (es ++ [e]) k = bkMsg es k := by unfold bkMsg; rw [rpO_snoc e h]
/-- an event from 10 on ends it -/
theorem wkTake_over {P : Prg} {W : Wkr} {e : Evt} (h : 10 ≤ e.1) : wkTake P W e = (wkV W, wkS W, wkN W, 4, wkA W, wkT W, wkC W, e.2.1) := by
  unfold wkTake
  rw [if_neg (by omega), if_neg (by omega), if_neg (by omega), if_neg (by omega), if_neg (by omega), if_neg (by omega), if_neg (by omega), if_neg (by omega)]
theorem rpR_wait {P : Prg} {es : List Evt} (h : wkP (rpA P es) ≠ 5) : rpR P es = rpA P es := by unfold rpR; rw [wkRun_done (Or.inl h)]
theorem rpR_over {P : Prg} {es : List Evt} {e : Evt} (h0 : 0 < es.length) (h : 10 ≤ e.1) : wkP (rpR P (es ++ [e])) = 4 := by
  have e1 : wkP (rpA P (es ++ [e])) = 4 := by rw [rpA_snoc P e h0, wkTake_over h]
  rw [rpR_wait (by omega), e1]
theorem bkG_step {vs : Nat → List Prg} {b : Bk} {r : Rec} (g : bkG vs b) (h : rcOK vs b r) : bkG vs (bkStep b r) := by
  obtain ⟨g1, g2, g3, g4⟩ := g
  have up : ∀ m ∈ bkO b, m.1 < bkP b + 1 := fun m hm => by have := (g3 m hm).1; omega
  rcases h with ⟨h1, h2, h3, h4, P, h5⟩ | ⟨h1, h2⟩ | ⟨h1, h2, p, h3⟩ | ⟨h1, h2, -⟩ | ⟨h1, h2, h3, ⟨h4, h49⟩, P, h5, h6⟩
  · have e : bkStep b r = (bkN b + 1, upf (bkF b) (bkN b) [rcE r], bkO b, bkP b + 1) := by unfold bkStep; rw [if_pos h1, h2]
    rw [e]
    refine ⟨by show bkN b + 1 ≤ 16; omega, fun n hn => ?_, fun m hm => ?_, g4⟩
    · by_cases c : n = bkN b
      · refine ⟨P, ?_⟩
        show prgIs vs (upf (bkF b) (bkN b) [rcE r] n) P ∧ hsOK P (upf (bkF b) (bkN b) [rcE r] n) ∧ ¬ (evAt (upf (bkF b) (bkN b) [rcE r] n) 0).2.1 < 0 ∧ ((upf (bkF b) (bkN b) [rcE r] n).length = 60 → wkP (rpR P (upf (bkF b) (bkN b) [rcE r] n)) = 4)
        rw [show upf (bkF b) (bkN b) [rcE r] n = [rcE r] from if_pos c]
        exact ⟨h5, hsOK_one P _ h1, h4, fun q => by simp at q⟩
      · obtain ⟨P1, q⟩ := g2 n (by have hn : n < bkN b + 1 := hn; omega)
        refine ⟨P1, ?_⟩
        show prgIs vs (upf (bkF b) (bkN b) [rcE r] n) P1 ∧ hsOK P1 (upf (bkF b) (bkN b) [rcE r] n) ∧ ¬ (evAt (upf (bkF b) (bkN b) [rcE r] n) 0).2.1 < 0 ∧ ((upf (bkF b) (bkN b) [rcE r] n).length = 60 → wkP (rpR P1 (upf (bkF b) (bkN b) [rcE r] n)) = 4)
        rw [show upf (bkF b) (bkN b) [rcE r] n = bkF b n from if_neg c]
        exact q
    · obtain ⟨q1, q2, q3, q4⟩ := g3 m hm
      have c : m.2.1 ≠ bkN b := by omega
      show m.1 < bkP b + 1 ∧ m.2.1 < bkN b + 1 ∧ m.2.2 < (upf (bkF b) (bkN b) [rcE r] m.2.1).length ∧ bkMsg (upf (bkF b) (bkN b) [rcE r] m.2.1) (evAt (upf (bkF b) (bkN b) [rcE r] m.2.1) m.2.2).1 = true
      rw [show upf (bkF b) (bkN b) [rcE r] m.2.1 = bkF b m.2.1 from if_neg c]
      exact ⟨by omega, by omega, q3, q4⟩
  · have e : bkStep b r = (bkN b, bkF b, bkO b, bkP b + 1) := by unfold bkStep; rw [if_neg (by omega), if_neg (by omega), if_pos (by omega)]
    rw [e]
    exact ⟨g1, g2, fun m hm => ⟨up m hm, (g3 m hm).2⟩, g4⟩
  · have e : bkStep b r = (bkN b, bkF b, (bkO b).filter (fun m => Int32.ofNat m.1 ≠ rcA r), bkP b + 1) := by unfold bkStep; rw [if_neg (by omega), if_pos h1]
    rw [e]
    refine ⟨g1, g2, fun m hm => ?_, List.Pairwise.filter _ g4⟩
    have hm := (List.mem_filter.mp hm).1
    exact ⟨up m hm, (g3 m hm).2⟩
  · have e : bkStep b r = (bkN b, bkF b, bkO b, bkP b + 1) := by unfold bkStep; rw [if_neg (by omega), if_neg (by omega), if_pos (by omega)]
    rw [e]
    exact ⟨g1, g2, fun m hm => ⟨up m hm, (g3 m hm).2⟩, g4⟩
  · have e : bkStep b r = (bkN b, upf (bkF b) (rcN r) (bkF b (rcN r) ++ [rcE r]), (if bkMsg (bkF b (rcN r)) (rcK r) = true then bkO b ++ [(bkP b, rcN r, (bkF b (rcN r)).length)] else bkO b), bkP b + 1) := by unfold bkStep; rw [if_neg (by omega), if_neg (by omega), if_neg (by omega)]
    rw [e]
    obtain ⟨P1, q1, q2, q3, -⟩ := g2 _ h3
    have eP : P1 = P := Option.some.inj (q1.symm.trans h5)
    rw [eP] at q1 q2
    have l0 := q2.1
    refine ⟨g1, fun n hn => ?_, ?_, ?_⟩
    · by_cases c : n = rcN r
      · refine ⟨P, ?_⟩
        show prgIs vs (upf (bkF b) (rcN r) (bkF b (rcN r) ++ [rcE r]) n) P ∧ hsOK P (upf (bkF b) (rcN r) (bkF b (rcN r) ++ [rcE r]) n) ∧ ¬ (evAt (upf (bkF b) (rcN r) (bkF b (rcN r) ++ [rcE r]) n) 0).2.1 < 0 ∧ ((upf (bkF b) (rcN r) (bkF b (rcN r) ++ [rcE r]) n).length = 60 → wkP (rpR P (upf (bkF b) (rcN r) (bkF b (rcN r) ++ [rcE r]) n)) = 4)
        rw [show upf (bkF b) (rcN r) (bkF b (rcN r) ++ [rcE r]) n = bkF b (rcN r) ++ [rcE r] from if_pos c]
        refine ⟨?_, hsOK_snoc q2 h4 h6, ?_, fun q => ?_⟩
        · unfold prgIs; rw [evAt_snoc l0]; exact q1
        · rw [evAt_snoc l0]; exact q3
        · rw [List.length_append] at q
          simp at q
          exact rpR_over l0 (h49 (by omega))
      · obtain ⟨P2, q⟩ := g2 n hn
        refine ⟨P2, ?_⟩
        show prgIs vs (upf (bkF b) (rcN r) (bkF b (rcN r) ++ [rcE r]) n) P2 ∧ hsOK P2 (upf (bkF b) (rcN r) (bkF b (rcN r) ++ [rcE r]) n) ∧ ¬ (evAt (upf (bkF b) (rcN r) (bkF b (rcN r) ++ [rcE r]) n) 0).2.1 < 0 ∧ ((upf (bkF b) (rcN r) (bkF b (rcN r) ++ [rcE r]) n).length = 60 → wkP (rpR P2 (upf (bkF b) (rcN r) (bkF b (rcN r) ++ [rcE r]) n)) = 4)
        rw [show upf (bkF b) (rcN r) (bkF b (rcN r) ++ [rcE r]) n = bkF b n from if_neg c]
        exact q
    · have old : ∀ m ∈ bkO b, m.1 < bkP b + 1 ∧ m.2.1 < bkN b ∧ m.2.2 < (upf (bkF b) (rcN r) (bkF b (rcN r) ++ [rcE r]) m.2.1).length ∧ bkMsg (upf (bkF b) (rcN r) (bkF b (rcN r) ++ [rcE r]) m.2.1) (evAt (upf (bkF b) (rcN r) (bkF b (rcN r) ++ [rcE r]) m.2.1) m.2.2).1 = true := fun m hm => by
        obtain ⟨z1, z2, z3, z4⟩ := g3 m hm
        refine ⟨by omega, z2, ?_⟩
        by_cases c : m.2.1 = rcN r
        · rw [show upf (bkF b) (rcN r) (bkF b (rcN r) ++ [rcE r]) m.2.1 = bkF b (rcN r) ++ [rcE r] from if_pos c]
          rw [c] at z3 z4
          refine ⟨by rw [List.length_append]; simp; omega, ?_⟩
          rw [evAt_snoc z3, bkMsg_snoc _ l0]; exact z4
        · rw [show upf (bkF b) (rcN r) (bkF b (rcN r) ++ [rcE r]) m.2.1 = bkF b m.2.1 from if_neg c]
          exact ⟨z3, z4⟩
      intro m hm
      have hm : m ∈ (if bkMsg (bkF b (rcN r)) (rcK r) = true then bkO b ++ [(bkP b, rcN r, (bkF b (rcN r)).length)] else bkO b) := hm
      split at hm
      · next cm =>
        rcases List.mem_append.mp hm with hm | hm
        · exact old m hm
        · rw [List.mem_singleton] at hm
          rw [hm]
          refine ⟨Nat.lt_succ_self _, h3, ?_⟩
          show (bkF b (rcN r)).length < (upf (bkF b) (rcN r) (bkF b (rcN r) ++ [rcE r]) (rcN r)).length ∧ bkMsg (upf (bkF b) (rcN r) (bkF b (rcN r) ++ [rcE r]) (rcN r)) (evAt (upf (bkF b) (rcN r) (bkF b (rcN r) ++ [rcE r]) (rcN r)) (bkF b (rcN r)).length).1 = true
          rw [show upf (bkF b) (rcN r) (bkF b (rcN r) ++ [rcE r]) (rcN r) = bkF b (rcN r) ++ [rcE r] from if_pos rfl]
          refine ⟨by simp, ?_⟩
          rw [evAt_last, bkMsg_snoc _ l0]; exact cm
      · exact old m hm
    · show (if bkMsg (bkF b (rcN r)) (rcK r) = true then bkO b ++ [(bkP b, rcN r, (bkF b (rcN r)).length)] else bkO b).Pairwise (fun x y => x.1 < y.1)
      split
      · rw [List.pairwise_append]
        refine ⟨g4, List.pairwise_singleton _ _, fun x hx y hy => ?_⟩
        rw [List.mem_singleton] at hy
        rw [hy]; exact (g3 x hx).1
      · exact g4
theorem bkG_log {vs : Nat → List Prg} {L : List Rec} (h : lgV vs L) : bkG vs (lgB L) := by
  generalize hn : L.length = n
  induction n generalizing L with
  | zero =>
    rw [List.length_eq_zero_iff] at hn
    rw [hn]
    exact ⟨Nat.zero_le _, fun n hn => absurd hn (Nat.not_lt_zero _), fun m hm => (nomatch hm), List.Pairwise.nil⟩
  | succ n ih =>
    rcases lg_cases L with e | ⟨A, r, e⟩
    · rw [e] at hn; cases hn
    · rw [e] at h ⊢
      obtain ⟨h1, h2⟩ := lgV_last h
      rw [lgB_snoc]
      refine bkG_step (ih h1 ?_) h2
      rw [e, List.length_append] at hn
      simpa using hn
/-! How many records a legal log can have -/
def sumN : Nat → (Nat → Nat) → Nat
  | 0, _ => 0
  | k + 1, f => sumN k f + f k
theorem sumN_le {c : Nat} : ∀ (k : Nat) (f : Nat → Nat), (∀ i, i < k → f i ≤ c) → sumN k f ≤ k * c
  | 0, f, _ => Nat.zero_le _
  | k + 1, f, h => by
    have h1 := sumN_le k f (fun i hi => h i (by omega))
    have h2 := h k (by omega)
    show sumN k f + f k ≤ (k + 1) * c
    rw [Nat.succ_mul]; omega
theorem sumN_congr {f g : Nat → Nat} : ∀ (k : Nat), (∀ i, i < k → f i = g i) → sumN k f = sumN k g
  | 0, _ => rfl
  | k + 1, h => by
    show sumN k f + f k = sumN k g + g k
    rw [sumN_congr k (fun i hi => h i (by omega)), h k (by omega)]
theorem sumN_upf {α : Type} (g : α → Nat) (F : Nat → α) (n : Nat) (v : α) : ∀ k : Nat, n < k → sumN k (fun i => g (upf F n v i)) + g (F n) = sumN k (fun i => g (F i)) + g v
  | 0, h => absurd h (Nat.not_lt_zero _)
  | k + 1, h => by
    show sumN k (fun i => g (upf F n v i)) + g (upf F n v k) + g (F n) = sumN k (fun i => g (F i)) + g (F k) + g v
    by_cases c : n = k
    · have e : sumN k (fun i => g (upf F n v i)) = sumN k (fun i => g (F i)) := sumN_congr k (fun i hi => by show g (if i = n then v else F i) = _; rw [if_neg (by omega)])
      rw [e, show upf F n v k = v from if_pos c.symm, c]; omega
    · have ih := sumN_upf g F n v k (by omega)
      rw [show upf F n v k = F k from if_neg (fun q => c q.symm)]; omega
def evC (L : List Rec) : Nat := L.countP (fun r => decide (rcK r ≤ 12))
def goC (L : List Rec) : Nat := L.countP (fun r => decide (rcK r = 14))
def lgW (L : List Rec) : Nat := evC L + goC L
theorem evC_snoc (L : List Rec) (r : Rec) : evC (L ++ [r]) = evC L + if rcK r ≤ 12 then 1 else 0 := by
  unfold evC
  rw [List.countP_append]
  congr 1
  by_cases c : rcK r ≤ 12 <;> simp [c]
theorem goC_snoc (L : List Rec) (r : Rec) : goC (L ++ [r]) = goC L + if rcK r = 14 then 1 else 0 := by
  unfold goC
  rw [List.countP_append]
  congr 1
  by_cases c : rcK r = 14 <;> simp [c]
theorem lgW_pre {A B : List Rec} (h : A <+: B) : lgW A ≤ lgW B := by
  obtain ⟨t, rfl⟩ := h
  unfold lgW evC goC
  rw [List.countP_append, List.countP_append]; omega
theorem lgV_count {vs : Nat → List Prg} {L : List Rec} (h : lgV vs L) : evC L = sumN 16 (fun n => (bkF (lgB L) n).length) ∧ goC L + (bkO (lgB L)).length ≤ evC L ∧ ∀ n, bkN (lgB L) ≤ n → bkF (lgB L) n = [] := by
  generalize hn : L.length = n
  induction n generalizing L with
  | zero =>
    rw [List.length_eq_zero_iff] at hn
    rw [hn]
    exact ⟨rfl, Nat.le_refl _, fun _ _ => rfl⟩
  | succ n ih =>
    rcases lg_cases L with e | ⟨A, r, e⟩
    · rw [e] at hn; cases hn
    · rw [e] at h ⊢
      obtain ⟨h1, h2⟩ := lgV_last h
      obtain ⟨i1, i2, i3⟩ := ih h1 (by rw [e, List.length_append] at hn; simpa using hn)
      have gA := bkG_log h1
      rw [lgB_snoc, evC_snoc, goC_snoc]
      generalize lgB A = b at *
      rcases h2 with ⟨h1, h2, h3, h4, P, h5⟩ | ⟨h1, h2⟩ | ⟨h1, h2, p, ⟨m, hm, em⟩, h3, h4⟩ | ⟨h1, h2, -⟩ | ⟨h1, h2, h3, ⟨h4, h49⟩, P, h5, h6⟩
      · have e : bkStep b r = (bkN b + 1, upf (bkF b) (bkN b) [rcE r], bkO b, bkP b + 1) := by unfold bkStep; rw [if_pos h1, h2]
        rw [e, if_pos (by omega), if_neg (by omega)]
        refine ⟨?_, by show goC A + 0 + (bkO b).length ≤ evC A + 1; omega, fun n hn => ?_⟩
        · have := sumN_upf List.length (bkF b) (bkN b) [rcE r] 16 h3
          rw [i3 (bkN b) (Nat.le_refl _)] at this
          show evC A + 1 = sumN 16 (fun n => (upf (bkF b) (bkN b) [rcE r] n).length)
          simp at this
          rw [this, i1]
        · have hn : bkN b + 1 ≤ n := hn
          show upf (bkF b) (bkN b) [rcE r] n = []
          rw [show upf (bkF b) (bkN b) [rcE r] n = bkF b n from if_neg (by omega)]
          exact i3 n (by omega)
      · have e : bkStep b r = (bkN b, bkF b, bkO b, bkP b + 1) := by unfold bkStep; rw [if_neg (by omega), if_neg (by omega), if_pos (by omega)]
        rw [e, if_neg (by omega), if_neg (by omega)]
        exact ⟨i1, i2, i3⟩
      · have e : bkStep b r = (bkN b, bkF b, (bkO b).filter (fun m => Int32.ofNat m.1 ≠ rcA r), bkP b + 1) := by unfold bkStep; rw [if_neg (by omega), if_pos h1]
        rw [e, if_neg (by omega), if_pos h1]
        refine ⟨i1, ?_, i3⟩
        have : ((bkO b).filter (fun m => Int32.ofNat m.1 ≠ rcA r)).length < (bkO b).length := by
          rw [List.length_filter_lt_length_iff_exists]
          refine ⟨m, hm, ?_⟩
          rw [em, h4]
          simp [nI]
        show goC A + 1 + ((bkO b).filter (fun m => Int32.ofNat m.1 ≠ rcA r)).length ≤ evC A + 0
        omega
      · have e : bkStep b r = (bkN b, bkF b, bkO b, bkP b + 1) := by unfold bkStep; rw [if_neg (by omega), if_neg (by omega), if_pos (by omega)]
        rw [e, if_neg (by omega), if_neg (by omega)]
        exact ⟨i1, i2, i3⟩
      · have e : bkStep b r = (bkN b, upf (bkF b) (rcN r) (bkF b (rcN r) ++ [rcE r]), (if bkMsg (bkF b (rcN r)) (rcK r) = true then bkO b ++ [(bkP b, rcN r, (bkF b (rcN r)).length)] else bkO b), bkP b + 1) := by unfold bkStep; rw [if_neg (by omega), if_neg (by omega), if_neg (by omega)]
        rw [e, if_pos h2, if_neg (show ¬ rcK r = 14 by omega)]
        refine ⟨?_, ?_, fun n hn => ?_⟩
        · have := sumN_upf List.length (bkF b) (rcN r) (bkF b (rcN r) ++ [rcE r]) 16 (by have := gA.1; omega)
          show evC A + 1 = sumN 16 (fun n => (upf (bkF b) (rcN r) (bkF b (rcN r) ++ [rcE r]) n).length)
          rw [List.length_append] at this
          simp at this
          omega
        · show goC A + 0 + (if bkMsg (bkF b (rcN r)) (rcK r) = true then bkO b ++ [(bkP b, rcN r, (bkF b (rcN r)).length)] else bkO b).length ≤ evC A + 1
          split
          · rw [List.length_append]; simp; omega
          · omega
        · have hn : bkN b ≤ n := hn
          show upf (bkF b) (rcN r) (bkF b (rcN r) ++ [rcE r]) n = []
          rw [show upf (bkF b) (rcN r) (bkF b (rcN r) ++ [rcE r]) n = bkF b n from if_neg (by omega)]
          exact i3 n hn
theorem lgV_bound {vs : Nat → List Prg} {L : List Rec} (h : lgV vs L) : lgW L ≤ 1920 ∧ (bkO (lgB L)).length ≤ 960 := by
  obtain ⟨c1, c2, c3⟩ := lgV_count h
  obtain ⟨g1, g2, -⟩ := bkG_log h
  have : sumN 16 (fun n => (bkF (lgB L) n).length) ≤ 16 * 60 := sumN_le 16 _ (fun i hi => by
    by_cases c : i < bkN (lgB L)
    · obtain ⟨P, -, q, -⟩ := g2 i c
      exact q.2.1
    · show (bkF (lgB L) i).length ≤ 60
      rw [c3 i (by omega)]; simp)
  unfold lgW
  omega
/-! WHAT STANDS IN A SHARD, AGAINST ITS BOOK -/
def lwk (es : List Evt) : Int32 × Int32 := es.foldl (fun o e => if e.1 = 1 then (e.2.1, e.2.2.1) else o) (0, 0)
theorem lwk_snoc (es : List Evt) (e : Evt) : lwk (es ++ [e]) = if e.1 = 1 then (e.2.1, e.2.2.1) else lwk es := by unfold lwk; rw [List.foldl_append]; rfl
def hasW (es : List Evt) : Prop := ∃ e ∈ es, e.1 = 1
theorem hasW_snoc (es : List Evt) (e : Evt) : hasW (es ++ [e]) ↔ hasW es ∨ e.1 = 1 := by
  unfold hasW
  simp [or_and_right, exists_or]
abbrev flK (f : Flw) : Int32 := (flT f).2.2.2.2.1
/-- its task is what its last WORK says -/
def tkI (f : Flw) : Prop := hasW (flE f) → ((flT f).1, (flT f).2.1) = lwk (flE f) ∧ ∃ k, 1 ≤ k ∧ k ≤ 4 ∧ (flT f).2.2.1 = nI k
def flA (vs : Nat → List Prg) (es : List Evt) (f : Flw) : Prop := flE f = es ∧ prgIs vs es (flP f) ∧ (flW f = rpA (flP f) es ∨ flW f = rpR (flP f) es) ∧ tkI f
def flZ (vs : Nat → List Prg) (es : List Evt) (f : Flw) : Prop := flE f = es ∧ prgIs vs es (flP f) ∧ flW f = rpR (flP f) es ∧ tkI f
theorem flZ.a {vs : Nat → List Prg} {es : List Evt} {f : Flw} (h : flZ vs es f) : flA vs es f := ⟨h.1, h.2.1, Or.inr h.2.2.1, h.2.2.2⟩
theorem flO_rp (f : Flw) : flO f = rpO (flE f) := rfl
theorem run_A (P : Prg) (es : List Evt) (now : Int32) {W : Wkr} (h : W = rpA P es ∨ W = rpR P es) : (wkRun P (rpO es) now es 201 W).2 = rpR P es := by
  rw [wkRun_now P (rpO es) now 0]
  rcases h with h | h
  · rw [h]; rfl
  · rw [h]; exact wkRun_again P (rpO es) 0 0 es (rpA P es)
theorem flRun_A {vs : Nat → List Prg} {es : List Evt} {f : Flw} (h : flA vs es f) (now : Int32) : (flRun f now).2 = (flP f, flE f, rpR (flP f) es, flT f) := by
  unfold flRun
  rw [flO_rp, h.1, run_A _ _ _ h.2.2.1]
theorem flRun_Z {vs : Nat → List Prg} {es : List Evt} {f : Flw} (h : flA vs es f) (now : Int32) : flZ vs es (flRun f now).2 := by
  rw [flRun_A h]
  exact ⟨h.1, h.2.1, rfl, h.2.2.2⟩
theorem tkI_take {f : Flw} (h : tkI f) (e : Evt) (now : Int32) : tkI (flTake f e now) := by
  unfold tkI flTake at *
  show hasW (flE f ++ [e]) → _
  intro hw
  rw [hasW_snoc] at hw
  show (((if e.1 = 1 then tkOpen (flT f) e.2.1 e.2.2.1 now else if e.1 = 2 ∨ e.1 = 3 ∨ 10 ≤ e.1 then tkFree (flT f) else flT f) : Tsk).1, ((if e.1 = 1 then tkOpen (flT f) e.2.1 e.2.2.1 now else if e.1 = 2 ∨ e.1 = 3 ∨ 10 ≤ e.1 then tkFree (flT f) else flT f) : Tsk).2.1) = lwk (flE f ++ [e]) ∧ ∃ k, 1 ≤ k ∧ k ≤ 4 ∧ ((if e.1 = 1 then tkOpen (flT f) e.2.1 e.2.2.1 now else if e.1 = 2 ∨ e.1 = 3 ∨ 10 ≤ e.1 then tkFree (flT f) else flT f) : Tsk).2.2.1 = nI k
  rw [lwk_snoc]
  by_cases c : e.1 = 1
  · rw [if_pos c, if_pos c]
    exact ⟨rfl, 1, by omega, by omega, rfl⟩
  · rw [if_neg c, if_neg c]
    have hw := h (hw.resolve_right c)
    split
    · exact hw
    · exact hw
theorem flTake_A {vs : Nat → List Prg} {es : List Evt} {f : Flw} (h : flZ vs es f) (h0 : 0 < es.length) (e : Evt) (now : Int32) : flA vs (es ++ [e]) (flTake f e now) := by
  refine ⟨?_, ?_, Or.inl ?_, tkI_take h.2.2.2 e now⟩
  · show flE f ++ [e] = _; rw [h.1]
  · unfold prgIs; rw [evAt_snoc h0]; exact h.2.1
  · show wkTake (flP f) (flW f) e = _
    rw [rpA_snoc _ e h0, h.2.2.1]
    rfl
theorem flOpen_A {vs : Nat → List Prg} {P : Prg} {a x o : Int32} (hP : prgOf vs a = some P) (f : Flw) : flA vs [(0, a, x, o)] (flOpen f P a x o) := by
  refine ⟨rfl, hP, Or.inl rfl, fun q => ?_⟩
  obtain ⟨e, he, q⟩ := q
  have he : e ∈ [((0, a, x, o) : Evt)] := he
  rw [List.mem_singleton] at he
  rw [he] at q
  cases q
/-- rows, outbox, against the book b -/
def stA (vs : Nat → List Prg) (b : Bk) (h : Shd) : Prop := shN h = bkN b ∧ shO h = bkO b ∧ ∀ n, n < bkN b → flA vs (bkF b n) (shF h n)
def stZ (vs : Nat → List Prg) (b : Bk) (h : Shd) : Prop := shN h = bkN b ∧ shO h = bkO b ∧ ∀ n, n < bkN b → flZ vs (bkF b n) (shF h n)
/-- no task is leased -/
def stK (h : Shd) : Prop := ∀ n, n < shN h → flK (shF h n) = 0
theorem isMsg_bk (f : Flw) (k : Nat) : isMsg f k = bkMsg (flE f) k := rfl
theorem flK_take {f : Flw} {e : Evt} {now : Int32} (h : flK f = 0) : flK (flTake f e now) = 0 := by
  unfold flTake
  show (if e.1 = 1 then tkOpen (flT f) e.2.1 e.2.2.1 now else if e.1 = 2 ∨ e.1 = 3 ∨ 10 ≤ e.1 then tkFree (flT f) else flT f).2.2.2.2.1 = 0
  split
  · rfl
  · split
    · rfl
    · exact h
theorem shRead_st {vs : Nat → List Prg} {b : Bk} {h : Shd} {r : Rec} (now : Int32) (g : bkG vs b) (s : stA vs b h) (k : stK h) (hr : rcOK vs b r) : stA vs (bkStep b r) (shRead vs now h (bkP b) r) ∧ stK (shRead vs now h (bkP b) r) := by
  obtain ⟨s1, s2, s3⟩ := s
  rcases hr with ⟨h1, h2, h3, h4, P, h5⟩ | ⟨h1, h2⟩ | ⟨h1, h2, p, -⟩ | ⟨h1, h2, k9, k1, k2, k3⟩ | ⟨h1, h2, h3, ⟨h4, h49⟩, P, h5, h6⟩
  · have e : bkStep b r = (bkN b + 1, upf (bkF b) (bkN b) [rcE r], bkO b, bkP b + 1) := by unfold bkStep; rw [if_pos h1, h2]
    have e2 : shRead vs now h (bkP b) r = (shZ h, shL h, shT h, shD h, bkN b + 1, upf (shF h) (bkN b) (flOpen (shF h (bkN b)) P (rcA r) (rcB r) (rcC r)), shO h, shQ h) := by
      unfold shRead; simp only []; rw [if_pos h1, h2]
      unfold shOpen; simp only []
      unfold prgOf at h5; rw [h5]
    rw [e, e2]
    have eE : rcE r = (0, rcA r, rcB r, rcC r) := by unfold rcE; rw [h1]
    refine ⟨⟨rfl, s2, fun n hn => ?_⟩, fun n hn => ?_⟩
    · show flA vs (upf (bkF b) (bkN b) [rcE r] n) (upf (shF h) (bkN b) (flOpen (shF h (bkN b)) P (rcA r) (rcB r) (rcC r)) n)
      by_cases c : n = bkN b
      · rw [show upf (bkF b) (bkN b) [rcE r] n = [rcE r] from if_pos c, show upf (shF h) (bkN b) (flOpen (shF h (bkN b)) P (rcA r) (rcB r) (rcC r)) n = _ from if_pos c, eE]
        exact flOpen_A h5 _
      · rw [show upf (bkF b) (bkN b) [rcE r] n = _ from if_neg c, show upf (shF h) (bkN b) (flOpen (shF h (bkN b)) P (rcA r) (rcB r) (rcC r)) n = _ from if_neg c]
        exact s3 n (by have hn : n < bkN b + 1 := hn; omega)
    · show flK (upf (shF h) (bkN b) (flOpen (shF h (bkN b)) P (rcA r) (rcB r) (rcC r)) n) = 0
      by_cases c : n = bkN b
      · rw [show upf (shF h) (bkN b) (flOpen (shF h (bkN b)) P (rcA r) (rcB r) (rcC r)) n = _ from if_pos c]; rfl
      · rw [show upf (shF h) (bkN b) (flOpen (shF h (bkN b)) P (rcA r) (rcB r) (rcC r)) n = _ from if_neg c]
        exact k n (by have hn : n < bkN b + 1 := hn; omega)
  · have e : bkStep b r = (bkN b, bkF b, bkO b, bkP b + 1) := by unfold bkStep; rw [if_neg (by omega), if_neg (by omega), if_pos (by omega)]
    have e2 : shRead vs now h (bkP b) r = h := by
      unfold shRead; simp only []; rw [if_neg (by omega), if_neg (by omega), if_neg (by omega), if_neg (by omega)]
    rw [e, e2]
    exact ⟨⟨s1, s2, s3⟩, k⟩
  · have e : bkStep b r = (bkN b, bkF b, (bkO b).filter (fun m => Int32.ofNat m.1 ≠ rcA r), bkP b + 1) := by unfold bkStep; rw [if_neg (by omega), if_pos h1]
    have e2 : shRead vs now h (bkP b) r = shSetO h ((shO h).filter (fun m => Int32.ofNat m.1 ≠ rcA r)) := by
      unfold shRead; simp only []; rw [if_neg (by omega), if_pos h1]
    rw [e, e2, s2]
    exact ⟨⟨s1, rfl, s3⟩, k⟩
  · have e : bkStep b r = (bkN b, bkF b, bkO b, bkP b + 1) := by unfold bkStep; rw [if_neg (by omega), if_neg (by omega), if_pos (by omega)]
    have e2 : shRead vs now h (bkP b) r = shSetF h (rcN r) (flP (shF h (rcN r)), flE (shF h (rcN r)), flW (shF h (rcN r)), tkReady (flT (shF h (rcN r))) (rcA r) (if now < rcB r then rcB r else now)) := by
      unfold shRead; simp only []; rw [if_neg (by omega), if_neg (by omega), if_pos h1]
    rw [e, e2]
    refine ⟨⟨s1, s2, fun n hn => ?_⟩, fun n hn => ?_⟩
    · show flA vs (bkF b n) (upf (shF h) (rcN r) (flP (shF h (rcN r)), flE (shF h (rcN r)), flW (shF h (rcN r)), tkReady (flT (shF h (rcN r))) (rcA r) (if now < rcB r then rcB r else now)) n)
      by_cases c : n = rcN r
      · rw [show upf (shF h) (rcN r) _ n = _ from if_pos c, c]
        obtain ⟨q1, q2, q3, q4⟩ := s3 _ h2
        exact ⟨q1, q2, q3, fun hw => ⟨(q4 hw).1, k9, k1, k2, k3⟩⟩
      · rw [show upf (shF h) (rcN r) _ n = _ from if_neg c]
        exact s3 n hn
    · show flK (upf (shF h) (rcN r) (flP (shF h (rcN r)), flE (shF h (rcN r)), flW (shF h (rcN r)), tkReady (flT (shF h (rcN r))) (rcA r) (if now < rcB r then rcB r else now)) n) = 0
      by_cases c : n = rcN r
      · rw [show upf (shF h) (rcN r) _ n = _ from if_pos c]; rfl
      · rw [show upf (shF h) (rcN r) _ n = _ from if_neg c]
        exact k n hn
  · have e : bkStep b r = (bkN b, upf (bkF b) (rcN r) (bkF b (rcN r) ++ [rcE r]), (if bkMsg (bkF b (rcN r)) (rcK r) = true then bkO b ++ [(bkP b, rcN r, (bkF b (rcN r)).length)] else bkO b), bkP b + 1) := by unfold bkStep; rw [if_neg (by omega), if_neg (by omega), if_neg (by omega)]
    obtain ⟨P1, -, q2, -⟩ := g.2.1 _ h3
    have l0 := q2.1
    have fA := flTake_A (flRun_Z (s3 _ h3) now) l0 (rcE r) now
    have fK : flK (flTake (flRun (shF h (rcN r)) now).2 (rcE r) now) = 0 := flK_take (k _ (by omega))
    have e2 : shRead vs now h (bkP b) r = (if bkMsg (bkF b (rcN r)) (rcK r) = true then shSetO (shSetF h (rcN r) (flTake (flRun (shF h (rcN r)) now).2 (rcE r) now)) (shO h ++ [(bkP b, rcN r, (bkF b (rcN r)).length)]) else shSetF h (rcN r) (flTake (flRun (shF h (rcN r)) now).2 (rcE r) now)) := by
      unfold shRead; simp only []; rw [if_neg (by omega), if_neg (by omega), if_neg (by omega), if_pos (by omega), isMsg_bk]
      rw [show ((rcK r, rcA r, rcB r, rcC r) : Evt) = rcE r from rfl, fA.1, bkMsg_snoc _ l0, List.length_append]
      simp [shSetF]
    rw [e, e2]
    have key : ∀ h1 : Shd, shN h1 = shN h → shF h1 = upf (shF h) (rcN r) (flTake (flRun (shF h (rcN r)) now).2 (rcE r) now) → (∀ n, n < bkN b → flA vs (upf (bkF b) (rcN r) (bkF b (rcN r) ++ [rcE r]) n) (shF h1 n)) ∧ stK h1 := fun h1 e1 e2 => by
      refine ⟨fun n hn => ?_, fun n hn => ?_⟩
      · rw [e2]
        by_cases c : n = rcN r
        · rw [show upf (bkF b) (rcN r) (bkF b (rcN r) ++ [rcE r]) n = _ from if_pos c, show upf (shF h) (rcN r) _ n = _ from if_pos c]
          exact fA
        · rw [show upf (bkF b) (rcN r) (bkF b (rcN r) ++ [rcE r]) n = _ from if_neg c, show upf (shF h) (rcN r) _ n = _ from if_neg c]
          exact s3 n hn
      · rw [e2]
        by_cases c : n = rcN r
        · rw [show upf (shF h) (rcN r) _ n = _ from if_pos c]; exact fK
        · rw [show upf (shF h) (rcN r) _ n = _ from if_neg c]
          exact k n (by rw [← e1]; exact hn)
    split
    · obtain ⟨k1, k2⟩ := key (shSetO (shSetF h (rcN r) (flTake (flRun (shF h (rcN r)) now).2 (rcE r) now)) (shO h ++ [(bkP b, rcN r, (bkF b (rcN r)).length)])) rfl rfl
      exact ⟨⟨s1, by show shO h ++ _ = bkO b ++ _; rw [s2], k1⟩, k2⟩
    · obtain ⟨k1, k2⟩ := key (shSetF h (rcN r) (flTake (flRun (shF h (rcN r)) now).2 (rcE r) now)) rfl rfl
      exact ⟨⟨s1, s2, k1⟩, k2⟩
theorem shRead_same (vs : Nat → List Prg) (now : Int32) (h : Shd) (p : Nat) (r : Rec) : shZ (shRead vs now h p r) = shZ h ∧ shL (shRead vs now h p r) = shL h ∧ shT (shRead vs now h p r) = shT h ∧ shD (shRead vs now h p r) = shD h ∧ shQ (shRead vs now h p r) = shQ h := by
  unfold shRead
  simp only []
  split
  · unfold shOpen
    simp only []
    split <;> exact ⟨rfl, rfl, rfl, rfl, rfl⟩
  · split
    · exact ⟨rfl, rfl, rfl, rfl, rfl⟩
    · split
      · exact ⟨rfl, rfl, rfl, rfl, rfl⟩
      · split
        · split <;> exact ⟨rfl, rfl, rfl, rfl, rfl⟩
        · exact ⟨rfl, rfl, rfl, rfl, rfl⟩
theorem shReads_same (vs : Nat → List Prg) (now : Int32) : ∀ (rs : List Rec) (p : Nat) (h : Shd), shZ (shReads vs now p rs h) = shZ h ∧ shL (shReads vs now p rs h) = shL h ∧ shT (shReads vs now p rs h) = shT h ∧ shD (shReads vs now p rs h) = shD h ∧ shQ (shReads vs now p rs h) = shQ h
  | [], p, h => ⟨rfl, rfl, rfl, rfl, rfl⟩
  | r :: rs, p, h => by
    obtain ⟨a1, a2, a3, a4, a5⟩ := shReads_same vs now rs (p + 1) (shRead vs now h p r)
    obtain ⟨b1, b2, b3, b4, b5⟩ := shRead_same vs now h p r
    exact ⟨a1.trans b1, a2.trans b2, a3.trans b3, a4.trans b4, a5.trans b5⟩
theorem shReads_st {vs : Nat → List Prg} {L : List Rec} (now : Int32) (hV : lgV vs L) : ∀ (B A : List Rec) (h : Shd), A ++ B = L → stA vs (lgB A) h → stK h → stA vs (lgB L) (shReads vs now A.length B h) ∧ stK (shReads vs now A.length B h)
  | [], A, h, e, s, k => by
    rw [List.append_nil] at e
    rw [← e]; exact ⟨s, k⟩
  | r :: B, A, h, e, s, k => by
    have e1 : (A ++ [r]) ++ B = L := by rw [← e]; simp
    have pr : A ++ [r] <+: L := ⟨B, e1⟩
    have g := bkG_log (lgV_pre vs A L ((List.prefix_append _ _).trans pr) hV)
    obtain ⟨s1, k1⟩ := shRead_st now g s k (hV A r pr)
    rw [lgB_place] at s1 k1
    rw [← lgB_snoc] at s1
    have := shReads_st now hV B (A ++ [r]) _ e1 s1 k1
    rw [List.length_append] at this
    exact this
theorem shBuild_st {vs : Nat → List Prg} {h : Shd} (now : Int32) (hV : lgV vs (shLog h)) : stZ vs (lgB (shLog h)) (shBuild vs now h) ∧ stK (shBuild vs now h) := by
  have s0 : stA vs (lgB []) (shZ h, shL h, shT h, shD h, 0, shF h, [], shQ h) := ⟨rfl, rfl, fun n hn => absurd hn (Nat.not_lt_zero _)⟩
  obtain ⟨⟨s1, s2, s3⟩, k⟩ := shReads_st now hV (shLog h) [] _ rfl s0 (fun n hn => absurd hn (Nat.not_lt_zero _))
  unfold shBuild
  simp only []
  refine ⟨⟨s1, s2, fun n hn => ?_⟩, fun n hn => ?_⟩
  · show flZ vs _ (if n < shN (shReads vs now 0 (shLog h) _) then (flRun (shF (shReads vs now 0 (shLog h) _) n) now).2 else _)
    rw [if_pos (by rw [← s1] at hn; exact hn)]
    exact flRun_Z (s3 n hn) now
  · have hn : n < shN (shReads vs now 0 (shLog h) (shZ h, shL h, shT h, shD h, 0, shF h, [], shQ h)) := hn
    show flK (if n < shN (shReads vs now 0 (shLog h) _) then (flRun (shF (shReads vs now 0 (shLog h) _) n) now).2 else _) = 0
    rw [if_pos hn]
    exact k n hn
theorem shBuild_same (vs : Nat → List Prg) (now : Int32) (h : Shd) : shZ (shBuild vs now h) = shZ h ∧ shL (shBuild vs now h) = shL h ∧ shT (shBuild vs now h) = shT h ∧ shD (shBuild vs now h) = shD h ∧ shQ (shBuild vs now h) = shQ h := by
  unfold shBuild
  exact shReads_same vs now (shLog h) 0 _
/-! WHAT WRITING DOES TO DISKS: fuses burn, replicas go down -/
def dkDn (d e : Dk) : Prop := (dkF d = -1 → dkF e = -1) ∧ (dkU d = true → dkU e = false → dkF d ≠ -1 ∧ dkF e = -1) ∧ (dkU d = false → dkU e = false)
theorem dkDn_rf (d : Dk) : dkDn d d := ⟨fun h => h, fun h1 h2 => (by rw [h1] at h2; cases h2), fun h => h⟩
theorem dkDn_tr {d e f : Dk} (p : dkDn d e) (q : dkDn e f) : dkDn d f := by
  refine ⟨fun h => q.1 (p.1 h), fun h1 h2 => ?_, fun h => q.2.2 (p.2.2 h)⟩
  cases he : dkU e with
  | false => exact ⟨(p.2.1 h1 he).1, q.1 (p.2.1 h1 he).2⟩
  | true => exact ⟨fun z => (q.2.1 he h2).1 (p.1 z), (q.2.1 he h2).2⟩
theorem dkDn_write (d : Dk) (r : Rec) : dkDn d (dkWrite d r) := by
  unfold dkWrite
  by_cases c : dkU d = false
  · rw [if_pos c]; exact dkDn_rf d
  · rw [if_neg c]
    by_cases c2 : dkF d ≠ -1 ∧ dkF d < 16
    · rw [if_pos c2]
      exact ⟨fun _ => rfl, fun _ _ => ⟨c2.1, rfl⟩, fun h => absurd h c⟩
    · rw [if_neg c2]
      refine ⟨fun h => ?_, fun _ h => ?_, fun h => absurd h c⟩
      · show (if dkF d = -1 then -1 else dkF d - 16) = -1
        rw [if_pos h]
      · cases h
theorem dkDn_writes : ∀ (rs : List Rec) (d : Dk), dkDn d (dkWrites d rs)
  | [], d => dkDn_rf d
  | r :: rs, d => dkDn_tr (dkDn_write d r) (dkDn_writes rs (dkWrite d r))
theorem dkDn_alike (d l : Dk) : dkDn d (dkAlike d l) := by
  unfold dkAlike
  exact dkDn_tr (e := ((dkL d).take (cpl (dkL d) (dkL l)), dkU d, dkF d, 0, dkR d)) (dkDn_rf d) (dkDn_writes _ _)
theorem dkOK_writes : ∀ (rs : List Rec) {d : Dk}, dkOK d → dkOK (dkWrites d rs)
  | [], d, h => h
  | r :: rs, d, h => dkOK_writes rs (dkOK_write r h)
theorem dkOK_alike {d : Dk} (l : Dk) (h : dkOK d) : dkOK (dkAlike d l) := by
  unfold dkAlike
  exact dkOK_writes _ (fun hu => ⟨rfl, (h hu).2⟩)
theorem dkLen_alike (d l : Dk) : (dkL (dkAlike d l)).length ≤ (dkL l).length := by
  obtain ⟨j, -, e, -⟩ := dkAlike_or d l
  rw [e, List.length_take]; omega
theorem dkLen_write (d : Dk) (r : Rec) : (dkL (dkWrite d r)).length ≤ (dkL d).length + 1 := by
  rcases dkWrite_or d r with ⟨-, -, e⟩ | ⟨-, e⟩
  · rw [e, List.length_append]; exact Nat.le_refl _
  · rw [e]; omega
theorem sumN_mono {f g : Nat → Nat} : ∀ k : Nat, (∀ i, i < k → f i ≤ g i) → sumN k f ≤ sumN k g
  | 0, _ => Nat.le_refl _
  | k + 1, h => by
    have := sumN_mono k (fun i hi => h i (by omega))
    have := h k (by omega)
    show sumN k f + f k ≤ sumN k g + g k
    omega
theorem sumN_lt {f g : Nat → Nat} {j : Nat} : ∀ k : Nat, (∀ i, i < k → f i ≤ g i) → j < k → f j + 1 ≤ g j → sumN k f + 1 ≤ sumN k g
  | 0, _, hj, _ => absurd hj (Nat.not_lt_zero _)
  | k + 1, h, hj, hs => by
    show sumN k f + f k + 1 ≤ sumN k g + g k
    by_cases c : j = k
    · have := sumN_mono k (fun i hi => h i (by omega))
      rw [c] at hs; omega
    · have := sumN_lt k (fun i hi => h i (by omega)) (by omega) hs
      have := h k (by omega)
      omega
/-- how many fuses are set; how many are up -/
def fusN (Z : Nat) (D : Nat → Dk) : Nat := sumN Z (fun x => if dkF (D x) = -1 then 0 else 1)
def upsN (Z : Nat) (D : Nat → Dk) : Nat := sumN Z (fun x => if dkU (D x) = true then 1 else 0)
theorem shUps_N (h : Shd) : shUps h = upsN (shZ h) (shD h) := by
  unfold shUps upsN
  generalize shZ h = Z
  induction Z with
  | zero => rfl
  | succ Z ih =>
    rw [List.range_succ, List.filter_append, List.length_append, ih]
    show _ = sumN Z _ + _
    congr 1
    by_cases c : dkU (shD h Z) = true <;> simp [c]
theorem fusN_dn {Z : Nat} {D E : Nat → Dk} (h : ∀ x, x < Z → dkDn (D x) (E x)) : fusN Z E ≤ fusN Z D := by
  refine sumN_mono Z (fun i hi => ?_)
  show (if dkF (E i) = -1 then 0 else 1) ≤ (if dkF (D i) = -1 then 0 else 1)
  by_cases c : dkF (D i) = -1
  · rw [if_pos c, if_pos ((h i hi).1 c)]; exact Nat.le_refl _
  · rw [if_neg c]; split <;> omega
theorem upsN_dn {Z : Nat} {D E : Nat → Dk} (h : ∀ x, x < Z → dkDn (D x) (E x)) : upsN Z E ≤ upsN Z D := by
  refine sumN_mono Z (fun i hi => ?_)
  show (if dkU (E i) = true then 1 else 0) ≤ (if dkU (D i) = true then 1 else 0)
  cases c : dkU (D i) with
  | false => rw [(h i hi).2.2 c]; exact Nat.le_refl _
  | true => rw [if_pos rfl]; split <;> omega
theorem ups_fall {Z : Nat} {D E : Nat → Dk} (h : ∀ x, x < Z → dkDn (D x) (E x)) {x : Nat} (hx : x < Z) (h1 : dkU (D x) = true) (h2 : dkU (E x) = false) : fusN Z E + 1 ≤ fusN Z D ∧ upsN Z E + 1 ≤ upsN Z D := by
  constructor
  · refine sumN_lt (j := x) Z (fun i hi => ?_) hx ?_
    · show (if dkF (E i) = -1 then 0 else 1) ≤ (if dkF (D i) = -1 then 0 else 1)
      by_cases c : dkF (D i) = -1
      · rw [if_pos c, if_pos ((h i hi).1 c)]; exact Nat.le_refl _
      · rw [if_neg c]; split <;> omega
    · obtain ⟨a1, a2⟩ := (h x hx).2.1 h1 h2
      show (if dkF (E x) = -1 then 0 else 1) + 1 ≤ (if dkF (D x) = -1 then 0 else 1)
      rw [if_pos a2, if_neg a1]; exact Nat.le_refl _
  · refine sumN_lt (j := x) Z (fun i hi => ?_) hx ?_
    · show (if dkU (E i) = true then 1 else 0) ≤ (if dkU (D i) = true then 1 else 0)
      cases c : dkU (D i) with
      | false => rw [(h i hi).2.2 c]; exact Nat.le_refl _
      | true => rw [if_pos rfl]; split <;> omega
    · show (if dkU (E x) = true then 1 else 0) + 1 ≤ (if dkU (D x) = true then 1 else 0)
      rw [h1, h2]; exact Nat.le_refl _
theorem ups_fall2 {Z : Nat} {D E : Nat → Dk} (h : ∀ x, x < Z → dkDn (D x) (E x)) (hl : upsN Z E < upsN Z D) : fusN Z E + 1 ≤ fusN Z D := by
  by_cases c : ∃ x, x < Z ∧ dkU (D x) = true ∧ dkU (E x) = false
  · obtain ⟨x, hx, h1, h2⟩ := c
    exact (ups_fall h hx h1 h2).1
  · have : upsN Z D ≤ upsN Z E := sumN_mono Z (fun i hi => by
      show (if dkU (D i) = true then 1 else 0) ≤ (if dkU (E i) = true then 1 else 0)
      cases c1 : dkU (D i) with
      | false => exact Nat.zero_le _
      | true =>
        cases c2 : dkU (E i) with
        | false => exact absurd ⟨i, hi, c1, c2⟩ c
        | true => exact Nat.le_refl _)
    omega
/-- tokens end with the leader -/
def losF (N : Nat) (F : Nat → Flw) : Nat → Flw := fun n => if n < N then (flP (F n), flE (F n), flW (F n), tkFree (flT (F n))) else F n
theorem shLose_eq (h : Shd) : shLose h = (shZ h, -1, shT h, shD h, shN h, losF (shN h) (shF h), shO h, shQ h) := rfl
/-- a record is tried: what changes -/
def cmS (h q : Shd) : Prop := (shZ q = shZ h ∧ shT q = shT h ∧ shN q = shN h ∧ shO q = shO h ∧ shQ q = shQ h + 1) ∧ ∀ x, x < shZ h → dkDn (shD h x) (shD q x) ∧ (dkL (shD q x)).length ≤ (dkL (shD h x)).length + 1 ∧ (dkOK (shD h x) → dkOK (shD q x))
theorem shSpread_dn (h : Shd) (l : Nat) (r : Rec) : ∀ x, x < shZ h → dkDn (shD h x) (shSpread h l r x) ∧ (dkL (shSpread h l r x)).length ≤ (dkL (shD h x)).length + 1 ∧ (dkOK (shD h x) → dkOK (shSpread h l r x)) := fun x hx => by
  rw [shSpread_any h r hx]
  exact ⟨dkDn_write _ _, dkLen_write _ _, fun h => dkOK_write _ h⟩
theorem upf_dn (h : Shd) (l : Nat) (r : Rec) : ∀ x, x < shZ h → dkDn (shD h x) (upf (shD h) l (dkWrite (shD h l) r) x) ∧ (dkL (upf (shD h) l (dkWrite (shD h l) r) x)).length ≤ (dkL (shD h x)).length + 1 ∧ (dkOK (shD h x) → dkOK (upf (shD h) l (dkWrite (shD h l) r) x)) := fun x hx => by
  by_cases c : x = l
  · rw [show upf (shD h) l (dkWrite (shD h l) r) x = dkWrite (shD h l) r from if_pos c, c]
    exact ⟨dkDn_write _ _, dkLen_write _ _, fun h => dkOK_write _ h⟩
  · rw [show upf (shD h) l (dkWrite (shD h l) r) x = shD h x from if_neg c]
    exact ⟨dkDn_rf _, Nat.le_succ _, fun h => h⟩
theorem dkWrite_up {d : Dk} {r : Rec} (h : dkU (dkWrite d r) = true) : dkU d = true ∧ (dkL (dkWrite d r) = dkL d ∨ dkL (dkWrite d r) = dkL d ++ [r]) := by
  rcases dkWrite_or d r with ⟨-, u, e⟩ | ⟨u, e⟩
  · exact ⟨u, Or.inr e⟩
  · rw [h] at u; cases u
theorem shSpread_up (h : Shd) (l : Nat) (r : Rec) : ∀ x, x < shZ h → dkU (shSpread h l r x) = true → dkU (shD h x) = true ∧ (dkL (shSpread h l r x) = dkL (shD h x) ∨ dkL (shSpread h l r x) = dkL (shD h x) ++ [r]) := fun x hx hu => by
  rw [shSpread_any h r hx] at hu ⊢
  exact dkWrite_up hu
theorem upf_up (h : Shd) (l : Nat) (r : Rec) : ∀ x, x < shZ h → dkU (upf (shD h) l (dkWrite (shD h l) r) x) = true → dkU (shD h x) = true ∧ (dkL (upf (shD h) l (dkWrite (shD h l) r) x) = dkL (shD h x) ∨ dkL (upf (shD h) l (dkWrite (shD h l) r) x) = dkL (shD h x) ++ [r]) := fun x hx hu => by
  by_cases c : x = l
  · rw [show upf (shD h) l (dkWrite (shD h l) r) x = dkWrite (shD h l) r from if_pos c] at hu ⊢
    rw [c]; exact dkWrite_up hu
  · rw [show upf (shD h) l (dkWrite (shD h l) r) x = shD h x from if_neg c] at hu ⊢
    exact ⟨hu, Or.inl rfl⟩
theorem shCommit_cut {h : Shd} {l : Nat} (hl : shL h = nI l) (hl1 : l < shZ h) (h5 : shZ h ≤ 5) (hu : dkU (shD h l) = true) (k n : Nat) (a b c : Int32) :
    (cmS h (shCommit h k n a b c).2 ∧ ∀ x, x < shZ h → dkU (shD (shCommit h k n a b c).2 x) = true → dkU (shD h x) = true ∧ (dkL (shD (shCommit h k n a b c).2 x) = dkL (shD h x) ∨ dkL (shD (shCommit h k n a b c).2 x) = dkL (shD h x) ++ [(n, k, shT h, a, b, c)])) ∧ ((shCommit h k n a b c).1 = true → shL (shCommit h k n a b c).2 = shL h ∧ shF (shCommit h k n a b c).2 = shF h) ∧
    ((shCommit h k n a b c).1 = false → shL (shCommit h k n a b c).2 = -1 ∧ shF (shCommit h k n a b c).2 = losF (shN h) (shF h) ∧ (dkU (shD (shCommit h k n a b c).2 l) = false ∨ shMost (shCommit h k n a b c).2 = false)) := by
  rcases shCommit_or hl (by omega) k n a b c with ⟨h1, e⟩ | ⟨h1, h2, e⟩ | ⟨h1, h2, e⟩
  · rw [e]
    refine ⟨⟨⟨⟨rfl, rfl, rfl, rfl, rfl⟩, upf_dn h l _⟩, upf_up h l _⟩, fun q => (by cases q), fun _ => ⟨rfl, rfl, Or.inl ?_⟩⟩
    show dkU (upf (shD h) l (dkWrite (shD h l) (n, k, shT h, a, b, c)) l) = false
    rw [show upf (shD h) l (dkWrite (shD h l) (n, k, shT h, a, b, c)) l = _ from if_pos rfl]; exact h1
  · rw [e]
    exact ⟨⟨⟨⟨rfl, rfl, rfl, rfl, rfl⟩, shSpread_dn h l _⟩, shSpread_up h l _⟩, fun _ => ⟨rfl, rfl⟩, fun q => by cases q⟩
  · rw [e]
    exact ⟨⟨⟨⟨rfl, rfl, rfl, rfl, rfl⟩, shSpread_dn h l _⟩, shSpread_up h l _⟩, fun q => (by cases q), fun _ => ⟨rfl, rfl, Or.inr h2⟩⟩
theorem fall_of {h q : Shd} (dn : ∀ x, x < shZ h → dkDn (shD h x) (shD q x)) (hz : shZ q = shZ h) {l : Nat} (hl1 : l < shZ h) (hu : dkU (shD h l) = true) (hm : shMost h = true) (hf : dkU (shD q l) = false ∨ shMost q = false) : fusN (shZ h) (shD q) + 1 ≤ fusN (shZ h) (shD h) ∧ upsN (shZ h) (shD q) + 1 ≤ upsN (shZ h) (shD h) := by
  rcases hf with hf | hf
  · exact ups_fall dn hl1 hu hf
  · have lt : upsN (shZ h) (shD q) < upsN (shZ h) (shD h) := by
      unfold shMost at hm hf
      rw [shUps_N] at hm hf
      have hm := of_decide_eq_true hm
      have hf := of_decide_eq_false hf
      rw [hz] at hf
      omega
    exact ⟨ups_fall2 dn lt, lt⟩
theorem cmS_fall {h q : Shd} (s : cmS h q) {l : Nat} (hl1 : l < shZ h) (hu : dkU (shD h l) = true) (hm : shMost h = true) (hf : dkU (shD q l) = false ∨ shMost q = false) : fusN (shZ h) (shD q) + 1 ≤ fusN (shZ h) (shD h) ∧ upsN (shZ h) (shD q) + 1 ≤ upsN (shZ h) (shD h) := by
  exact fall_of (fun x hx => (s.2 x hx).1) s.1.1 hl1 hu hm hf
/-! THE MEASURE OF WORK: records tried, fuses, no leader, leases -/
def leaN (N : Nat) (F : Nat → Flw) : Nat := sumN N (fun n => if flK (F n) = 0 then 0 else 1)
def shY (h : Shd) : Nat := shQ h + 2 * fusN (shZ h) (shD h) + (if shL h = -1 then 1 else 0) + leaN (shN h) (shF h)
/-- those that are up have what is done, and behind it no GONE -/
def noG (C E : List Rec) : Prop := ∃ X, E = C ++ X ∧ ∀ r ∈ X, rcK r ≠ 14
def upX (h : Shd) (C : List Rec) : Prop := ∀ x, x < shZ h → dkU (shD h x) = true → noG C (dkL (shD h x))
theorem noG.rf (C : List Rec) : noG C C := ⟨[], by simp, fun r hr => (nomatch hr)⟩
theorem noG.tr {C E G : List Rec} (a : noG C E) (b : noG E G) : noG C G := by
  obtain ⟨X, rfl, hX⟩ := a
  obtain ⟨Y, rfl, hY⟩ := b
  exact ⟨X ++ Y, by simp, fun r hr => (List.mem_append.mp hr).elim (hX r) (hY r)⟩
theorem noG.one (C : List Rec) {r : Rec} (h : rcK r ≠ 14) : noG C (C ++ [r]) := ⟨[r], rfl, fun q hq => by rw [List.mem_singleton.mp hq]; exact h⟩
/-- tokens come only with leases -/
def tkLe (h u : Shd) : Prop := ∀ n, n < shN u → flK (shF u n) = 0 ∨ (n < shN h ∧ flK (shF u n) = flK (shF h n))
theorem tkLe.tr {h u q : Shd} (a : tkLe h u) (b : tkLe u q) : tkLe h q := fun n hn => by
  rcases b n hn with b | ⟨b1, b2⟩
  · exact Or.inl b
  · rcases a n b1 with a | ⟨a1, a2⟩
    · exact Or.inl (b2.trans a)
    · exact Or.inr ⟨a1, b2.trans a2⟩
theorem tkLe_los {h u : Shd} (e1 : shN u = shN h) (e3 : shF u = losF (shN h) (shF h)) : tkLe h u := fun n hn => by
  left
  rw [e3, show losF (shN h) (shF h) n = (flP (shF h n), flE (shF h n), flW (shF h n), tkFree (flT (shF h n))) from if_pos (by omega)]
  rfl
theorem tkLe_up {h u : Shd} {n : Nat} {f : Flw} (e1 : shN u = shN h) (e3 : shF u = upf (shF h) n f) (hf : flK f = 0 ∨ flK f = flK (shF h n)) : tkLe h u := fun m hm => by
  rw [e3]
  by_cases c : m = n
  · rw [show upf (shF h) n f m = f from if_pos c, c]
    exact hf.imp id (fun q => ⟨by omega, q⟩)
  · rw [show upf (shF h) n f m = shF h m from if_neg c]
    exact Or.inr ⟨by omega, rfl⟩
def Gr (g : Bool) (h : Shd) (C : List Rec) (q : Shd) (E : List Rec) : Prop := C <+: E ∧ shY q + lgW C ≤ shY h + lgW E ∧ shZ q = shZ h ∧ shQ h ≤ shQ q ∧ upsN (shZ h) (shD q) ≤ upsN (shZ h) (shD h) ∧ ((g = true → upX h C → noG C E ∧ upX q E) ∧ tkLe h q)
theorem Gr.rf (g : Bool) (h : Shd) (C : List Rec) : Gr g h C h C := ⟨List.prefix_refl _, Nat.le_refl _, rfl, Nat.le_refl _, Nat.le_refl _, ⟨fun _ u => ⟨noG.rf C, u⟩, fun n hn => Or.inr ⟨hn, rfl⟩⟩⟩
theorem Gr.tr {g : Bool} {h q u : Shd} {C E G : List Rec} (a : Gr g h C q E) (b : Gr g q E u G) : Gr g h C u G := by
  obtain ⟨a1, a2, a3, a4, a5, a6, a7⟩ := a
  obtain ⟨b1, b2, b3, b4, b5, b6, b7⟩ := b
  rw [a3] at b5
  exact ⟨a1.trans b1, by omega, b3.trans a3, Nat.le_trans a4 b4, Nat.le_trans b5 a5, ⟨fun hg hu => ⟨(a6 hg hu).1.tr (b6 hg (a6 hg hu).2).1, (b6 hg (a6 hg hu).2).2⟩, a7.tr b7⟩⟩
theorem Gr.less {h q : Shd} {C E : List Rec} (a : Gr true h C q E) : Gr false h C q E := ⟨a.1, a.2.1, a.2.2.1, a.2.2.2.1, a.2.2.2.2.1, fun q => (by cases q), a.2.2.2.2.2.2⟩
theorem works_upX {V : List Rec → Prop} {h : Shd} {C : List Rec} (hR : ShR V h C) (hl : shL h ≠ -1) : upX h C := fun x hx hu => by
  obtain ⟨-, P, Q, -, -, -, -, hW⟩ := hR
  obtain ⟨l, w, -, hC⟩ := hW hl
  rw [w.2.2.2.1 x hx hu, ← hC]
  exact noG.rf C
theorem leaN_losF (N : Nat) (F : Nat → Flw) : leaN N (losF N F) = 0 := by
  have : leaN N (losF N F) = sumN N (fun _ => 0) := sumN_congr N (fun i hi => by
    show (if flK (losF N F i) = 0 then 0 else 1) = 0
    rw [show losF N F i = (flP (F i), flE (F i), flW (F i), tkFree (flT (F i))) from if_pos hi]
    rfl)
  rw [this]
  clear this
  induction N with
  | zero => rfl
  | succ N ih => show sumN N (fun _ => 0) + 0 = 0; rw [ih]
def ShB (h : Shd) : Prop := 3 ≤ shZ h ∧ (∀ x, x < shZ h → (dkL (shD h x)).length ≤ shQ h ∧ dkOK (shD h x) ∧ (dkU (shD h x) = false → dkF (shD h x) = -1)) ∧ shT h ≤ shQ h
theorem dkDn_off {d e : Dk} (p : dkDn d e) (h : dkU d = false → dkF d = -1) (hu : dkU e = false) : dkF e = -1 := by
  cases c : dkU d with
  | false => exact p.1 (h c)
  | true => exact (p.2.1 c hu).2
theorem ShB_cm {h q : Shd} (b : ShB h) (s : cmS h q) : ShB q := by
  obtain ⟨⟨s1, s2, s3, s4, s5⟩, s6⟩ := s
  refine ⟨by rw [s1]; exact b.1, fun x hx => ?_, by rw [s2, s5]; have := b.2.2; omega⟩
  rw [s1] at hx
  obtain ⟨a1, a2, a3⟩ := s6 x hx
  obtain ⟨b1, b2, b3⟩ := b.2.1 x hx
  exact ⟨by rw [s5]; omega, a3 b2, dkDn_off a1 b3⟩
def ShT (h : Shd) : Prop := ∀ n, n < shN h → flK (shF h n) = 0 ∨ (wkP (flW (shF h n)) = 0 ∧ shL h ≠ -1)
def ShI (vs : Nat → List Prg) (h : Shd) (C : List Rec) : Prop := ShR (lgV vs) h C ∧ stZ vs (lgB C) h ∧ ShB h ∧ ShT h
theorem ShR.v {V : List Rec → Prop} {h : Shd} {C : List Rec} (hI : ShR V h C) (hp : ∀ A B, A <+: B → V B → V A) : V C := by
  obtain ⟨-, P, Q, ⟨-, hV⟩, -, -, ⟨c1, c2⟩, -⟩ := hI
  exact hp _ _ (c2 (shT h) c1 (Nat.le_refl _)) (hV _ (Nat.le_refl _))
theorem ShI.v {vs : Nat → List Prg} {h : Shd} {C : List Rec} (hI : ShI vs h C) : lgV vs C := hI.1.v (lgV_pre vs)
theorem ShI.w {vs : Nat → List Prg} {h : Shd} {C : List Rec} (hI : ShI vs h C) (hl : shL h ≠ -1) : ∃ l, ShW h l ∧ C = dkL (shD h l) := by
  obtain ⟨⟨-, P, Q, -, -, -, -, hW⟩, -⟩ := hI
  obtain ⟨l, a, -, b⟩ := hW hl
  exact ⟨l, a, b⟩
theorem losF_Z {vs : Nat → List Prg} {b : Bk} {h q : Shd} (s : stZ vs b h) (e1 : shN q = shN h) (e2 : shO q = shO h) (e3 : shF q = losF (shN h) (shF h)) : stZ vs b q := by
  obtain ⟨s1, s2, s3⟩ := s
  refine ⟨e1.trans s1, e2.trans s2, fun n hn => ?_⟩
  rw [e3, show losF (shN h) (shF h) n = (flP (shF h n), flE (shF h n), flW (shF h n), tkFree (flT (shF h n))) from if_pos (by omega)]
  obtain ⟨z1, z2, z3, z4⟩ := s3 n hn
  exact ⟨z1, z2, z3, z4⟩
theorem losF_T {h q : Shd} (e1 : shN q = shN h) (e3 : shF q = losF (shN h) (shF h)) : ShT q := fun n hn => by
  left
  rw [e3, show losF (shN h) (shF h) n = (flP (shF h n), flE (shF h n), flW (shF h n), tkFree (flT (shF h n))) from if_pos (by omega)]
  rfl
/-- a record that isn't done -/
theorem fail_I {vs : Nat → List Prg} {h : Shd} {C : List Rec} (hI : ShI vs h C) (hl : shL h ≠ -1) (k n : Nat) (a b c : Int32) (hr : rcOK vs (lgB C) (n, k, shT h, a, b, c)) (hq : (shCommit h k n a b c).1 = false) :
    ShI vs (shCommit h k n a b c).2 C ∧ Gr (decide (k ≠ 14)) h C (shCommit h k n a b c).2 C ∧ shL (shCommit h k n a b c).2 = -1 ∧ shF (shCommit h k n a b c).2 = losF (shN h) (shF h) ∧ upsN (shZ h) (shD (shCommit h k n a b c).2) + 1 ≤ upsN (shZ h) (shD h) := by
  obtain ⟨l, ⟨w1, w2, w3, w4, w5⟩, hC⟩ := hI.w hl
  obtain ⟨⟨s, s9⟩, -, s3⟩ := shCommit_cut w2 w1 hI.1.1 w3 k n a b c
  obtain ⟨f1, f2, f3⟩ := s3 hq
  obtain ⟨-, r2⟩ := shCommit_R hI.1 hl k n a b c (lgV_snoc hI.v hr)
  obtain ⟨g1, g2⟩ := cmS_fall s w1 w3 w5 f3
  obtain ⟨⟨s1, s2, s4, s5, s6⟩, s7⟩ := id s
  refine ⟨⟨(r2 hq).1, losF_Z hI.2.1 s4 s5 f2, ShB_cm hI.2.2.1 s, losF_T s4 f2⟩, ⟨List.prefix_refl _, ?_, s1, by omega, by omega, fun hg _ => ⟨noG.rf C, fun x hx hu => ?_⟩, tkLe_los s4 f2⟩, f1, f2, g2⟩
  · unfold shY
    rw [f1, if_pos rfl, if_neg hl, s6, s1, s4, f2, leaN_losF]
    omega
  · rw [s1] at hx
    obtain ⟨u1, u2⟩ := s9 x hx hu
    rw [w4 x hx u1, ← hC] at u2
    rcases u2 with u2 | u2
    · rw [u2]; exact noG.rf C
    · rw [u2]; exact noG.one C (of_decide_eq_true hg)
/-! ONE EVENT -/
def shMake (now : Int32) (h : Shd) (n k : Nat) (a b o : Int32) : Bool × Shd :=
  if (shHappen now h n k a b o).1 = false then shHappen now h n k a b o
  else (true, shSetF (shHappen now h n k a b o).2 n (flRun (shF (shHappen now h n k a b o).2 n) now).2)
/-- the event itself, or OVER in its place -/
def evNow (es : List Evt) (k : Nat) (a b o : Int32) : Evt := if (decide (k < 10) && decide (59 ≤ es.length)) = true then (12, -1, 0, 0) else (k, a, b, o)
theorem evNow_ok {P : Prg} {es : List Evt} {k : Nat} {a b o : Int32} (h : evOK P es (k, a, b, o)) : evOK P es (evNow es k a b o) ∧ (1 ≤ (evNow es k a b o).1 ∧ (evNow es k a b o).1 ≤ 12) ∧ (59 ≤ es.length → 10 ≤ (evNow es k a b o).1) := by
  unfold evNow
  by_cases c : (decide (k < 10) && decide (59 ≤ es.length)) = true
  · rw [if_pos c]
    exact ⟨⟨h.1, by decide, by decide, Or.inl rfl⟩, by decide, fun _ => by decide⟩
  · rw [if_neg c]
    refine ⟨h, ?_, fun hl => ?_⟩
    · have h1 : k < 13 := h.2.1
      have h2 : k ≠ 0 := h.2.2.1
      exact ⟨by show 1 ≤ k; omega, by show k ≤ 12; omega⟩
    · show 10 ≤ k
      simp [hl] at c
      exact c
theorem shHappen_eq (now : Int32) (h : Shd) (n k : Nat) (a b o : Int32) {es : List Evt} (he : flE (shF h n) = es) {e : Evt} (hE : evNow es k a b o = e) : shHappen now h n k a b o =
    if (shCommit h e.1 n e.2.1 e.2.2.1 e.2.2.2).1 = false then (false, (shCommit h e.1 n e.2.1 e.2.2.1 e.2.2.2).2)
    else (true, if isMsg (flTake (shF (shCommit h e.1 n e.2.1 e.2.2.1 e.2.2.2).2 n) e now) e.1 then shSetO (shSetF (shCommit h e.1 n e.2.1 e.2.2.1 e.2.2.2).2 n (flTake (shF (shCommit h e.1 n e.2.1 e.2.2.1 e.2.2.2).2 n) e now)) (shO (shCommit h e.1 n e.2.1 e.2.2.1 e.2.2.2).2 ++ [(shRecs h, n, (flE (flTake (shF (shCommit h e.1 n e.2.1 e.2.2.1 e.2.2.2).2 n) e now)).length - 1)]) else shSetF (shCommit h e.1 n e.2.1 e.2.2.1 e.2.2.2).2 n (flTake (shF (shCommit h e.1 n e.2.1 e.2.2.1 e.2.2.2).2 n) e now)) := by
  unfold shHappen
  rw [he]
  unfold evNow at hE
  simp only [] at hE ⊢
  rw [hE]
  rfl
theorem shLog_of {h : Shd} {l : Nat} (hl : shL h = nI l) (h1 : l < 2147483648) : shLog h = dkL (shD h l) ∧ shRecs h = (dkL (shD h l)).length := by
  have e : shLog h = dkL (shD h l) := by unfold shLog; rw [hl, zi_nat h1]
  refine ⟨e, ?_⟩
  unfold shRecs
  rw [if_neg (by rw [hl]; exact zi_ne1 h1), e]
theorem leaN_upf_le {N : Nat} {F : Nat → Flw} {n : Nat} {f : Flw} (hn : n < N) (h : flK f = 0 ∨ flK f = flK (F n)) : leaN N (upf F n f) ≤ leaN N F := by
  refine sumN_mono N (fun i hi => ?_)
  show (if flK (upf F n f i) = 0 then 0 else 1) ≤ (if flK (F i) = 0 then 0 else 1)
  by_cases c : i = n
  · rw [show upf F n f i = f from if_pos c, c]
    rcases h with h | h
    · rw [if_pos h]; exact Nat.zero_le _
    · rw [h]; exact Nat.le_refl _
  · rw [show upf F n f i = F i from if_neg c]; exact Nat.le_refl _
theorem leaN_upf_lt {N : Nat} {F : Nat → Flw} {n : Nat} {f : Flw} (hn : n < N) (h : flK f = 0) (h2 : flK (F n) ≠ 0) : leaN N (upf F n f) + 1 ≤ leaN N F := by
  refine sumN_lt (j := n) N (fun i hi => ?_) hn ?_
  · show (if flK (upf F n f i) = 0 then 0 else 1) ≤ (if flK (F i) = 0 then 0 else 1)
    by_cases c : i = n
    · rw [show upf F n f i = f from if_pos c, c, if_pos h]; exact Nat.zero_le _
    · rw [show upf F n f i = F i from if_neg c]; exact Nat.le_refl _
  · show (if flK (upf F n f n) = 0 then 0 else 1) + 1 ≤ (if flK (F n) = 0 then 0 else 1)
    rw [show upf F n f n = f from if_pos rfl, if_pos h, if_neg h2]; exact Nat.le_refl _
/-- a task that is leased stays so only while its workflow waits for it -/
theorem flK_make {vs : Nat → List Prg} {es : List Evt} {f : Flw} {e : Evt} (hz : flZ vs es f) (h0 : 0 < es.length) (ok : evOK (flP f) es e) (hk : flK f = 0 ∨ wkP (flW f) = 0) (now : Int32) :
    (flK (flTake f e now) = 0 ∨ flK (flTake f e now) = flK f) ∧ (flK (flTake f e now) = 0 ∨ wkP (rpR (flP f) (es ++ [e])) = 0) := by
  have eK : flK (flTake f e now) = (if e.1 = 1 then tkOpen (flT f) e.2.1 e.2.2.1 now else if e.1 = 2 ∨ e.1 = 3 ∨ 10 ≤ e.1 then tkFree (flT f) else flT f).2.2.2.2.1 := rfl
  by_cases c1 : e.1 = 1
  · have : flK (flTake f e now) = 0 := by rw [eK, if_pos c1]; rfl
    exact ⟨Or.inl this, Or.inl this⟩
  · by_cases c2 : e.1 = 2 ∨ e.1 = 3 ∨ 10 ≤ e.1
    · have : flK (flTake f e now) = 0 := by rw [eK, if_neg c1, if_pos c2]; rfl
      exact ⟨Or.inl this, Or.inl this⟩
    · have e1 : flK (flTake f e now) = flK f := by rw [eK, if_neg c1, if_neg c2]
      refine ⟨Or.inr e1, ?_⟩
      rcases hk with hk | hk
      · exact Or.inl (e1.trans hk)
      · right
        rw [hz.2.2.1] at hk
        have ow := evOK_wait ok (by omega)
        have et : wkTake (flP f) (rpR (flP f) es) e = rpR (flP f) es := by
          unfold wkTake
          rw [if_neg c1, if_neg (by omega), if_neg (by omega), if_neg (by omega), if_neg (by omega), if_neg (by omega)]
          by_cases c8 : e.1 = 8
          · rw [if_pos c8, if_neg (by omega)]
          · rw [if_neg c8, if_pos (by omega), if_neg (by omega)]
        have eA : rpA (flP f) (es ++ [e]) = rpR (flP f) es := by rw [rpA_snoc _ e h0, et]
        rw [rpR_wait (by rw [eA]; omega), eA]; exact hk
theorem upf_upf {α : Type} (F : Nat → α) (n : Nat) (f g : α) : upf (upf F n f) n g = upf F n g := by
  funext m
  unfold upf
  split <;> rfl
theorem upf_same {α : Type} (F : Nat → α) (n : Nat) : upf F n (F n) = F := by
  funext m
  unfold upf
  split
  · next e => rw [e]
  · rfl
theorem setF_at1 (u : Shd) (n : Nat) (f : Flw) : shF (shSetF u n f) n = f := if_pos rfl
theorem setF_at2 (u : Shd) (n : Nat) (f : Flw) (O : List (Nat × Nat × Nat)) : shF (shSetO (shSetF u n f) O) n = f := if_pos rfl
theorem setF_set1 (u : Shd) (n : Nat) (f g : Flw) : shSetF (shSetF u n f) n g = (shZ u, shL u, shT u, shD u, shN u, upf (shF u) n g, shO u, shQ u) := by
  show (shZ u, shL u, shT u, shD u, shN u, upf (upf (shF u) n f) n g, shO u, shQ u) = _
  rw [upf_upf]
theorem setF_set2 (u : Shd) (n : Nat) (f g : Flw) (O : List (Nat × Nat × Nat)) : shSetF (shSetO (shSetF u n f) O) n g = (shZ u, shL u, shT u, shD u, shN u, upf (shF u) n g, O, shQ u) := by
  show (shZ u, shL u, shT u, shD u, shN u, upf (upf (shF u) n f) n g, O, shQ u) = _
  rw [upf_upf]
theorem shMake_I {vs : Nat → List Prg} {h : Shd} {C : List Rec} (hI : ShI vs h C) (hl : shL h ≠ -1) {n k : Nat} (hn : n < shN h) {a b o : Int32} (ok : evOK (flP (shF h n)) (flE (shF h n)) (k, a, b, o)) (now : Int32) {e : Evt} (hE : evNow (flE (shF h n)) k a b o = e) :
    ((shMake now h n k a b o).1 = true → ShI vs (shMake now h n k a b o).2 (C ++ [(n, e.1, shT h, e.2.1, e.2.2.1, e.2.2.2)]) ∧ Gr true h C (shMake now h n k a b o).2 (C ++ [(n, e.1, shT h, e.2.1, e.2.2.1, e.2.2.2)]) ∧ shL (shMake now h n k a b o).2 = shL h ∧ shN (shMake now h n k a b o).2 = shN h ∧ flE (shF (shMake now h n k a b o).2 n) = flE (shF h n) ++ [e] ∧ ∀ m, m ≠ n → shF (shMake now h n k a b o).2 m = shF h m) ∧
    ((shMake now h n k a b o).1 = false → ShI vs (shMake now h n k a b o).2 C ∧ Gr true h C (shMake now h n k a b o).2 C ∧ shL (shMake now h n k a b o).2 = -1 ∧ shF (shMake now h n k a b o).2 = losF (shN h) (shF h) ∧ upsN (shZ h) (shD (shMake now h n k a b o).2) + 1 ≤ upsN (shZ h) (shD h)) := by
  obtain ⟨eok, ⟨e1, e12⟩, e59⟩ := evNow_ok ok
  rw [hE] at eok e1 e12 e59
  obtain ⟨s1, s2, s3⟩ := hI.2.1
  have hz := s3 n (by omega)
  obtain ⟨P, q1, q2, q3, q4⟩ := (bkG_log hI.v).2.1 n (by omega)
  have eP : flP (shF h n) = P := Option.some.inj (hz.2.1.symm.trans q1)
  have lt60 : (bkF (lgB C) n).length < 60 := by
    have := q2.2.1
    by_cases c : (bkF (lgB C) n).length = 60
    · have h4 := q4 c
      have := eok.1
      rw [hz.1, eP] at this
      exact absurd h4 this
    · omega
  have hr : rcOK vs (lgB C) (n, e.1, shT h, e.2.1, e.2.2.1, e.2.2.2) := Or.inr (Or.inr (Or.inr (Or.inr ⟨e1, e12, by show n < bkN _; omega, ⟨lt60, fun q => e59 (by rw [hz.1]; exact Nat.le_of_eq q.symm)⟩, P, q1, by
    show evOK P (bkF (lgB C) n) e
    rw [← eP, ← hz.1]; exact eok⟩)))
  have eH := shHappen_eq now h n k a b o rfl hE
  cases hq : (shCommit h e.1 n e.2.1 e.2.2.1 e.2.2.2).1 with
  | false =>
    rw [if_pos hq] at eH
    have eM : shMake now h n k a b o = (false, (shCommit h e.1 n e.2.1 e.2.2.1 e.2.2.2).2) := by unfold shMake; rw [eH, if_pos rfl]
    rw [eM]
    exact ⟨fun q => (by cases q), fun _ => by
      have z := fail_I hI hl e.1 n e.2.1 e.2.2.1 e.2.2.2 hr hq
      rw [show decide (e.1 ≠ 14) = true from decide_eq_true (by omega)] at z
      exact z⟩
  | true =>
    rw [if_neg (by rw [hq]; decide)] at eH
    obtain ⟨l, ⟨w1, w2, w3, w4, w5⟩, hC⟩ := hI.w hl
    obtain ⟨⟨s, -⟩, s8, -⟩ := shCommit_cut w2 w1 hI.1.1 w3 e.1 n e.2.1 e.2.2.1 e.2.2.2
    obtain ⟨f1, f2⟩ := s8 hq
    obtain ⟨r2, -⟩ := shCommit_R hI.1 hl e.1 n e.2.1 e.2.2.1 e.2.2.2 (lgV_snoc hI.v hr)
    have r2 := (r2 hq).1
    obtain ⟨⟨t1, t2, t4, t5, t6⟩, t7⟩ := id s
    have tB := ShB_cm hI.2.2.1 s
    have tF := fusN_dn (fun x hx => (t7 x hx).1)
    have tU := upsN_dn (fun x hx => (t7 x hx).1)
    have hRecs : shRecs h = C.length := by rw [(shLog_of w2 (by have := hI.1.1; omega)).2, hC]
    rw [f2, t5, hRecs] at eH
    have l0 := q2.1
    have fA := flTake_A hz l0 e now
    have fM : isMsg (flTake (shF h n) e now) e.1 = bkMsg (bkF (lgB C) n) e.1 := by rw [isMsg_bk, fA.1, bkMsg_snoc _ l0]
    have fL : (flE (flTake (shF h n) e now)).length - 1 = (bkF (lgB C) n).length := by rw [fA.1, List.length_append]; rfl
    rw [fM, fL] at eH
    generalize (shCommit h e.1 n e.2.1 e.2.2.1 e.2.2.2).2 = u at *
    have eS : bkStep (lgB C) (n, e.1, shT h, e.2.1, e.2.2.1, e.2.2.2) = (bkN (lgB C), upf (bkF (lgB C)) n (bkF (lgB C) n ++ [e]), (if bkMsg (bkF (lgB C) n) e.1 = true then bkO (lgB C) ++ [(bkP (lgB C), n, (bkF (lgB C) n).length)] else bkO (lgB C)), bkP (lgB C) + 1) := by
      unfold bkStep
      rw [if_neg (by show ¬ e.1 = 0; omega), if_neg (by show ¬ e.1 = 14; omega), if_neg (by show ¬ (e.1 = 15 ∨ e.1 = 13); omega)]
      rfl
    have fZ := flRun_Z fA now
    have eZ : (flRun (flTake (shF h n) e now) now).2 = (flP (shF h n), bkF (lgB C) n ++ [e], rpR (flP (shF h n)) (bkF (lgB C) n ++ [e]), flT (flTake (shF h n) e now)) := by
      rw [flRun_A fA, fA.1]; rfl
    have okZ : evOK (flP (shF h n)) (bkF (lgB C) n) e := by rw [← hz.1]; exact eok
    have hk9 := flK_make hz l0 okZ ((hI.2.2.2 n hn).imp id (fun q => q.1)) now
    have eM : shMake now h n k a b o = (true, (shZ u, shL u, shT u, shD u, shN u, upf (shF h) n (flRun (flTake (shF h n) e now) now).2, (if bkMsg (bkF (lgB C) n) e.1 = true then bkO (lgB C) ++ [(bkP (lgB C), n, (bkF (lgB C) n).length)] else bkO (lgB C)), shQ u)) := by
      unfold shMake
      rw [eH, if_neg (fun q => Bool.noConfusion q), s2, ← lgB_place C]
      by_cases c : bkMsg (bkF (lgB C) n) e.1 = true
      · rw [if_pos c, if_pos c]
        show (true, shSetF (shSetO (shSetF u n (flTake (shF h n) e now)) _) n (flRun (shF (shSetO (shSetF u n (flTake (shF h n) e now)) _) n) now).2) = _
        rw [setF_at2, setF_set2, f2]
      · rw [if_neg c, if_neg c]
        show (true, shSetF (shSetF u n (flTake (shF h n) e now)) n (flRun (shF (shSetF u n (flTake (shF h n) e now)) n) now).2) = _
        rw [setF_at1, setF_set1, f2, t5, s2]
    rw [eM]
    refine ⟨fun _ => ?_, fun q => (by cases q)⟩
    refine ⟨⟨ShR_same r2 rfl rfl rfl rfl, ?_, ?_, ?_⟩, ⟨List.prefix_append _ _, ?_, t1, by show shQ h ≤ shQ u; omega, tU, fun _ _ => ⟨noG.one C (show e.1 ≠ 14 by omega), works_upX (ShR_same r2 rfl rfl rfl rfl) (by show shL u ≠ -1; rw [f1]; exact hl)⟩, tkLe_up t4 rfl (by rw [eZ]; exact hk9.1)⟩, f1, t4, ?_, fun m hm => if_neg hm⟩
    · rw [lgB_snoc, eS]
      refine ⟨t4.trans s1, rfl, fun m hm => ?_⟩
      show flZ vs (upf (bkF (lgB C)) n (bkF (lgB C) n ++ [e]) m) (upf (shF h) n (flRun (flTake (shF h n) e now) now).2 m)
      by_cases c : m = n
      · rw [show upf (bkF (lgB C)) n (bkF (lgB C) n ++ [e]) m = _ from if_pos c, show upf (shF h) n _ m = _ from if_pos c]; exact fZ
      · rw [show upf (bkF (lgB C)) n (bkF (lgB C) n ++ [e]) m = _ from if_neg c, show upf (shF h) n _ m = _ from if_neg c]; exact s3 m hm
    · exact tB
    · intro m hm
      have hm : m < shN u := hm
      show flK (upf (shF h) n (flRun (flTake (shF h n) e now) now).2 m) = 0 ∨ (wkP (flW (upf (shF h) n (flRun (flTake (shF h n) e now) now).2 m)) = 0 ∧ shL u ≠ -1)
      by_cases c : m = n
      · rw [show upf (shF h) n _ m = (flRun (flTake (shF h n) e now) now).2 from if_pos c, eZ]
        exact hk9.2.imp id (fun q => ⟨q, by rw [f1]; exact hl⟩)
      · rw [show upf (shF h) n _ m = shF h m from if_neg c, f1]
        exact hI.2.2.2 m (by omega)
    · unfold shY
      show shQ u + 2 * fusN (shZ u) (shD u) + (if shL u = -1 then 1 else 0) + leaN (shN u) (upf (shF h) n (flRun (flTake (shF h n) e now) now).2) + lgW C ≤ shQ h + 2 * fusN (shZ h) (shD h) + (if shL h = -1 then 1 else 0) + leaN (shN h) (shF h) + lgW (C ++ [(n, e.1, shT h, e.2.1, e.2.2.1, e.2.2.2)])
      have h9 : leaN (shN u) (upf (shF h) n (flRun (flTake (shF h n) e now) now).2) ≤ leaN (shN h) (shF h) := by
        rw [t4]
        refine leaN_upf_le hn ?_
        rw [eZ]; exact hk9.1
      have hw : lgW (C ++ [(n, e.1, shT h, e.2.1, e.2.2.1, e.2.2.2)]) = lgW C + 1 := by
        unfold lgW
        rw [evC_snoc, goC_snoc, if_pos (show e.1 ≤ 12 from e12), if_neg (show ¬ e.1 = 14 by omega)]
        omega
      rw [f1, t1, t6, hw]
      omega
    · show flE (upf (shF h) n (flRun (flTake (shF h n) e now) now).2 n) = _
      rw [show upf (shF h) n _ n = (flRun (flTake (shF h n) e now) now).2 from if_pos rfl, eZ, hz.1]
/-! GOING ON -/
theorem flRun_again (f : Flw) (now : Int32) : (flRun (flRun f now).2 now).1 = (flRun f now).1 := by
  unfold flRun
  simp only [flP, flE, flW, flO, flT]
  rw [wkRun_done (wkRun_ok _ _ _ _ _)]
  exact (wkRun_wish f.1 (evAt f.2.1 0).2.2.2 now f.2.1 200 f.2.2.1 (by omega)).symm
theorem flRun_Zeq {vs : Nat → List Prg} {es : List Evt} {f : Flw} (h : flZ vs es f) (now : Int32) : flRun f now = ((if wkP (flW f) ≠ 5 then none else wkWish (flP f) (rpO es) now (flW f)), f) := by
  have hd : wkDone (flP f) (rpO es) (flW f) := by rw [h.2.2.1]; exact wkRun_ok _ _ _ _ _
  unfold flRun
  rw [flO_rp, h.1, wkRun_done hd]
  show (_, (flP f, es, flW f, flT f)) = _
  rw [← h.1]
theorem setF_same (h : Shd) (n : Nat) : shSetF h n (shF h n) = h := by
  show (shZ h, shL h, shT h, shD h, shN h, upf (shF h) n (shF h n), shO h, shQ h) = h
  rw [upf_same]
theorem shGo_eq (now : Int32) (u : Shd) (n : Nat) : shGo now u n = shGoL now n 60 (flRun (shF (shSetF u n (flRun (shF u n) now).2) n) now).1 (shSetF u n (flRun (shF u n) now).2) := by
  unfold shGo
  rw [setF_at1, flRun_again]
theorem shGoL_make (now : Int32) (h : Shd) (n i k : Nat) (a b : Int32) : shGoL now n (i + 1) (some (k, a, b)) h = if (shMake now h n k a b 0).1 = false then (shMake now h n k a b 0).2 else shGoL now n i (flRun (shF (shMake now h n k a b 0).2 n) now).1 (shMake now h n k a b 0).2 := by
  show (if (shHappen now h n k a b 0).1 = false then (shHappen now h n k a b 0).2 else shGoL now n i (flRun (shF (shHappen now h n k a b 0).2 n) now).1 (shSetF (shHappen now h n k a b 0).2 n (flRun (shF (shHappen now h n k a b 0).2 n) now).2)) = _
  unfold shMake
  by_cases c : (shHappen now h n k a b 0).1 = false
  · rw [if_pos c, if_pos c, if_pos c]
  · rw [if_neg c, if_neg c, if_neg (fun q => Bool.noConfusion q), setF_at1, flRun_again]
theorem wkWish_kinds {P : Prg} {o now : Int32} {W : Wkr} {k : Nat} {a b : Int32} (h : wkWish P o now W = some (k, a, b)) : k < 13 ∧ k ≠ 0 := by
  by_cases hk : k < 10
  · obtain ⟨-, q⟩ := wkWish_lt h hk
    omega
  · unfold wkWish at h
    simp only [] at h
    have e : ∀ {x : Nat} {u v : Int32}, (some (x, u, v) : Option (Nat × Int32 × Int32)) = some (k, a, b) → x = k := fun q => congrArg (fun z => z.1) (Option.some.inj q)
    split at h
    · have := e h; omega
    · split at h
      · have := e h; omega
      · split at h
        · have := e h; omega
        · split at h
          · have := e h; omega
          · split at h
            · have := e h; omega
            · split at h
              · split at h
                · have := e h; omega
                · cases h
              · split at h
                · have := e h; omega
                · cases h
theorem ShI.len {vs : Nat → List Prg} {h : Shd} {C : List Rec} (hI : ShI vs h C) {n : Nat} (hn : n < shN h) : 0 < (flE (shF h n)).length ∧ (flE (shF h n)).length ≤ 60 ∧ ((flE (shF h n)).length = 60 → wkP (flW (shF h n)) = 4) ∧ hsOK (flP (shF h n)) (flE (shF h n)) ∧ flW (shF h n) = rpR (flP (shF h n)) (flE (shF h n)) := by
  obtain ⟨s1, s2, s3⟩ := hI.2.1
  have hz := s3 n (by omega)
  obtain ⟨P, q1, q2, q3, q4⟩ := (bkG_log hI.v).2.1 n (by omega)
  have eP : flP (shF h n) = P := Option.some.inj (hz.2.1.symm.trans q1)
  rw [hz.2.2.1, hz.1, eP]
  exact ⟨q2.1, q2.2.1, q4, q2, rfl⟩
/-- what going on leaves -/
def goP (n : Nat) (h u : Shd) : Prop := shN u = shN h ∧ (shL u ≠ -1 → shL u = shL h ∧ wkP (flW (shF u n)) ≠ 5 ∧ ∀ m, m ≠ n → shF u m = shF h m) ∧ (shL u = -1 → upsN (shZ h) (shD u) + 1 ≤ upsN (shZ h) (shD h))
theorem wish_evOK {P : Prg} {es : List Evt} {now : Int32} {k : Nat} {a b o : Int32} (h5 : wkP (rpR P es) = 5) (hw : wkWish P (rpO es) now (rpR P es) = some (k, a, b)) : evOK P es (k, a, b, o) := by
  obtain ⟨k1, k2⟩ := wkWish_kinds hw
  exact ⟨by omega, k1, k2, Or.inr (Or.inr (Or.inl ⟨h5, now, hw⟩))⟩
theorem shGoL_I {vs : Nat → List Prg} (now : Int32) (n : Nat) : ∀ (i : Nat) (h : Shd) (C : List Rec), ShI vs h C → shL h ≠ -1 → n < shN h → 60 ≤ i + (flE (shF h n)).length →
    ∃ E, ShI vs (shGoL now n i (flRun (shF h n) now).1 h) E ∧ Gr true h C (shGoL now n i (flRun (shF h n) now).1 h) E ∧ goP n h (shGoL now n i (flRun (shF h n) now).1 h)
  | i, h, C, hI, hl, hn, hi => by
    have hz := hI.2.1.2.2 n (by rw [← hI.2.1.1]; exact hn)
    obtain ⟨l1, l2, l3, l4, l5⟩ := hI.len hn
    have ew : (flRun (shF h n) now).1 = if wkP (flW (shF h n)) ≠ 5 then none else wkWish (flP (shF h n)) (rpO (flE (shF h n))) now (flW (shF h n)) := by rw [flRun_Zeq hz, hz.1]
    by_cases c5 : wkP (flW (shF h n)) = 5
    · rw [if_neg (fun q => q c5)] at ew
      have hd : wkDone (flP (shF h n)) (rpO (flE (shF h n))) (flW (shF h n)) := by rw [l5]; exact wkRun_ok _ _ _ _ _
      have hs := hd.resolve_left (fun q => q c5)
      rw [wkWish_now _ _ 0 now] at hs
      obtain ⟨⟨k, a, b⟩, hw⟩ := Option.isSome_iff_exists.mp hs
      rw [hw] at ew
      have ok : evOK (flP (shF h n)) (flE (shF h n)) (k, a, b, 0) := wish_evOK (now := now) (by rw [← l5]; exact c5) (by rw [← l5]; exact hw)
      cases i with
      | zero => exact absurd (l3 (by omega)) (by omega)
      | succ i =>
        rw [ew, shGoL_make]
        obtain ⟨m1, m2⟩ := shMake_I hI hl hn ok now rfl
        by_cases c : (shMake now h n k a b 0).1 = false
        · rw [if_pos c]
          obtain ⟨a1, a2, a3, a4, a5⟩ := m2 c
          refine ⟨C, a1, a2, ?_, fun q => absurd a3 q, fun _ => a5⟩
          have := a1.2.1.1
          rw [this, hI.2.1.1]
        · rw [if_neg c]
          have c1 : (shMake now h n k a b 0).1 = true := by cases hc : (shMake now h n k a b 0).1 with
            | true => rfl
            | false => exact absurd hc c
          obtain ⟨a1, a2, a3, a4, a5, a6⟩ := m1 c1
          obtain ⟨E, b1, b2, b3, b4, b5⟩ := shGoL_I now n i _ _ a1 (by rw [a3]; exact hl) (by rw [a4]; exact hn) (by rw [a5, List.length_append]; simp; omega)
          refine ⟨E, b1, a2.tr b2, b3.trans a4, fun q => ?_, fun q => ?_⟩
          · obtain ⟨d1, d2, d3⟩ := b4 q
            exact ⟨d1.trans a3, d2, fun m hm => (d3 m hm).trans (a6 m hm)⟩
          · have d := b5 q
            have e := a2.2.2.2.2.1
            rw [a2.2.2.1] at d
            omega
    · rw [if_pos c5] at ew
      have e1 : shGoL now n i (flRun (shF h n) now).1 h = h := by
        rw [ew]; cases i <;> rfl
      rw [e1]
      exact ⟨C, hI, Gr.rf true h C, rfl, fun _ => ⟨rfl, c5, fun _ _ => rfl⟩, fun q => absurd q hl⟩
theorem shGo_I {vs : Nat → List Prg} (now : Int32) {n : Nat} {h : Shd} {C : List Rec} (hI : ShI vs h C) (hl : shL h ≠ -1) (hn : n < shN h) : ∃ E, ShI vs (shGo now h n) E ∧ Gr true h C (shGo now h n) E ∧ goP n h (shGo now h n) := by
  have hz := hI.2.1.2.2 n (by rw [← hI.2.1.1]; exact hn)
  have e : shGo now h n = shGoL now n 60 (flRun (shF h n) now).1 h := by
    unfold shGo
    rw [show (flRun (shF h n) now).2 = shF h n by rw [flRun_Zeq hz], setF_same]
  rw [e]
  exact shGoL_I now n 60 h C hI hl hn (by omega)
/-- an event and what follows -/
def brP (n : Nat) (h u : Shd) : Prop := shN u = shN h ∧ (shL u ≠ -1 → shL u = shL h ∧ wkP (flW (shF u n)) ≠ 5 ∧ ∀ m, m ≠ n → shF u m = shF h m) ∧ (shL u = -1 → upsN (shZ h) (shD u) + 1 ≤ upsN (shZ h) (shD h))
theorem shBring_eq (now : Int32) (h : Shd) (n k : Nat) (a b o : Int32) : shBring now h n k a b o = if (shMake now h n k a b o).1 = false then (false, (shMake now h n k a b o).2) else (true, shGoL now n 60 (flRun (shF (shMake now h n k a b o).2 n) now).1 (shMake now h n k a b o).2) := by
  show (if (shHappen now h n k a b o).1 = false then (false, (shHappen now h n k a b o).2) else (true, shGo now (shHappen now h n k a b o).2 n)) = _
  unfold shMake
  by_cases c : (shHappen now h n k a b o).1 = false
  · rw [if_pos c, if_pos c, if_pos c]
  · rw [if_neg c, if_neg c, if_neg (fun q => Bool.noConfusion q), shGo_eq]
theorem shBring_I {vs : Nat → List Prg} (now : Int32) {n k : Nat} {h : Shd} {C : List Rec} (hI : ShI vs h C) (hl : shL h ≠ -1) (hn : n < shN h) {a b o : Int32} (ok : evOK (flP (shF h n)) (flE (shF h n)) (k, a, b, o)) :
    ∃ E, ShI vs (shBring now h n k a b o).2 E ∧ Gr true h C (shBring now h n k a b o).2 E ∧ brP n h (shBring now h n k a b o).2 ∧ ((shBring now h n k a b o).1 = false → shL (shBring now h n k a b o).2 = -1 ∧ E = C) := by
  obtain ⟨m1, m2⟩ := shMake_I hI hl hn ok now rfl
  rw [shBring_eq]
  by_cases c : (shMake now h n k a b o).1 = false
  · rw [if_pos c]
    obtain ⟨a1, a2, a3, a4, a5⟩ := m2 c
    refine ⟨C, a1, a2, ⟨?_, fun q => absurd a3 q, fun _ => a5⟩, fun _ => ⟨a3, rfl⟩⟩
    have := a1.2.1.1
    rw [this, hI.2.1.1]
  · rw [if_neg c]
    have c1 : (shMake now h n k a b o).1 = true := by cases hc : (shMake now h n k a b o).1 with
      | true => rfl
      | false => exact absurd hc c
    obtain ⟨a1, a2, a3, a4, a5, a6⟩ := m1 c1
    obtain ⟨E, b1, b2, b3, b4, b5⟩ := shGoL_I now n 60 _ _ a1 (by rw [a3]; exact hl) (by rw [a4]; exact hn) (by omega)
    refine ⟨E, b1, a2.tr b2, ⟨b3.trans a4, fun q => ?_, fun q => ?_⟩, fun q => (by cases q)⟩
    · obtain ⟨d1, d2, d3⟩ := b4 q
      exact ⟨d1.trans a3, d2, fun m hm => (d3 m hm).trans (a6 m hm)⟩
    · have d := b5 q
      have e := a2.2.2.2.2.1
      rw [a2.2.2.1] at d
      exact Nat.le_trans d e
/-! A ROW BEGINS; A TRY; A MESSAGE IS GONE -/
/-- programs that can be: their steps, how many versions -/
def vsOK (vs : Nat → List Prg) : Prop := ∀ p, p < 8 → (vs p).length ≤ 4100 ∧ ∀ P ∈ vs p, prgOK P
theorem prgOf_num (vs : Nat → List Prg) {p v : Nat} (hp : p < 8) (hv : v ≤ 4100) : prgOf vs (nI (p + 8 * v)) = (vs p)[v]? := by
  unfold prgOf
  rw [zi_nat (by omega), show (p + 8 * v) % 8 = p by omega, show (p + 8 * v) / 8 = v by omega]
theorem shOpen_eq {vs : Nat → List Prg} {h : Shd} {n : Nat} {a x o : Int32} {P : Prg} (hP : prgOf vs a = some P) : shOpen vs h n a x o = (shZ h, shL h, shT h, shD h, n + 1, upf (shF h) n (flOpen (shF h n) P a x o), shO h, shQ h) := by
  unfold shOpen
  simp only []
  unfold prgOf at hP
  rw [hP]
/-- a row is there, and its program has gone on as far as it needs no event -/
def shBorn (vs : Nat → List Prg) (now : Int32) (h : Shd) (n : Nat) (a x o : Int32) : Shd := shSetF (shOpen vs h n a x o) n (flRun (shF (shOpen vs h n a x o) n) now).2
def bgA (vs : Nat → List Prg) (p : Nat) : Int32 := Int32.ofNat (p + 8 * ((vs p).length - 1))
theorem shBegin_eq (vs : Nat → List Prg) (now : Int32) (h : Shd) (p : Nat) (x o : Int32) : shBegin vs now h p x o = if (shCommit h 0 (shN h) (bgA vs p) x o).1 = false then (false, (shCommit h 0 (shN h) (bgA vs p) x o).2) else (true, shGoL now (shN h) 60 (flRun (shF (shBorn vs now (shCommit h 0 (shN h) (bgA vs p) x o).2 (shN h) (bgA vs p) x o) (shN h)) now).1 (shBorn vs now (shCommit h 0 (shN h) (bgA vs p) x o).2 (shN h) (bgA vs p) x o)) := by
  show (if (shCommit h 0 (shN h) (bgA vs p) x o).1 = false then (false, (shCommit h 0 (shN h) (bgA vs p) x o).2) else (true, shGo now (shOpen vs (shCommit h 0 (shN h) (bgA vs p) x o).2 (shN h) (bgA vs p) x o) (shN h))) = _
  rw [shGo_eq]
  rfl
theorem bgA_ok {vs : Nat → List Prg} (hv : vsOK vs) {p : Nat} (hp : p < 8) (hne : vs p ≠ []) : ∃ P, prgOf vs (bgA vs p) = some P ∧ P ∈ vs p ∧ ¬ bgA vs p < 0 := by
  have hl : 0 < (vs p).length := List.length_pos_iff.mpr hne
  have := (hv p hp).1
  refine ⟨(vs p)[(vs p).length - 1]'(by omega), ?_, List.getElem_mem _, zi_neg (by omega)⟩
  rw [show bgA vs p = nI (p + 8 * ((vs p).length - 1)) from rfl, prgOf_num vs hp (by omega), List.getElem?_eq_getElem (by omega)]
theorem born_I {vs : Nat → List Prg} {h : Shd} {C : List Rec} (hI : ShI vs h C) (hl : shL h ≠ -1) (hN : shN h < 16) {a x o : Int32} {P : Prg} (hP : prgOf vs a = some P) (ha : ¬ a < 0) (now : Int32) (hq : (shCommit h 0 (shN h) a x o).1 = true) :
    ShI vs (shBorn vs now (shCommit h 0 (shN h) a x o).2 (shN h) a x o) (C ++ [(shN h, 0, shT h, a, x, o)]) ∧ Gr true h C (shBorn vs now (shCommit h 0 (shN h) a x o).2 (shN h) a x o) (C ++ [(shN h, 0, shT h, a, x, o)]) ∧ shL (shBorn vs now (shCommit h 0 (shN h) a x o).2 (shN h) a x o) = shL h ∧ shN (shBorn vs now (shCommit h 0 (shN h) a x o).2 (shN h) a x o) = shN h + 1 ∧ ∀ m, m ≠ shN h → shF (shBorn vs now (shCommit h 0 (shN h) a x o).2 (shN h) a x o) m = shF h m := by
  obtain ⟨s1, s2, s3⟩ := hI.2.1
  have hr : rcOK vs (lgB C) (shN h, 0, shT h, a, x, o) := Or.inl ⟨rfl, s1, by omega, ha, P, hP⟩
  obtain ⟨l, ⟨w1, w2, w3, w4, w5⟩, hC⟩ := hI.w hl
  obtain ⟨⟨s, -⟩, s8, -⟩ := shCommit_cut w2 w1 hI.1.1 w3 0 (shN h) a x o
  obtain ⟨f1, f2⟩ := s8 hq
  obtain ⟨r2, -⟩ := shCommit_R hI.1 hl 0 (shN h) a x o (lgV_snoc hI.v hr)
  have r2 := (r2 hq).1
  obtain ⟨⟨t1, t2, t4, t5, t6⟩, t7⟩ := id s
  have tB := ShB_cm hI.2.2.1 s
  have tF := fusN_dn (fun x hx => (t7 x hx).1)
  have tU := upsN_dn (fun x hx => (t7 x hx).1)
  generalize (shCommit h 0 (shN h) a x o).2 = u at *
  have fA := flOpen_A (x := x) (o := o) hP (shF h (shN h))
  have fZ := flRun_Z fA now
  have fK : flK (flRun (flOpen (shF h (shN h)) P a x o) now).2 = 0 := rfl
  have eB : shBorn vs now u (shN h) a x o = (shZ u, shL u, shT u, shD u, shN h + 1, upf (shF h) (shN h) (flRun (flOpen (shF h (shN h)) P a x o) now).2, shO u, shQ u) := by
    unfold shBorn
    rw [shOpen_eq hP, f2]
    show (shZ u, shL u, shT u, shD u, shN h + 1, upf (upf (shF h) (shN h) (flOpen (shF h (shN h)) P a x o)) (shN h) (flRun (upf (shF h) (shN h) (flOpen (shF h (shN h)) P a x o) (shN h)) now).2, shO u, shQ u) = _
    rw [upf_upf, show upf (shF h) (shN h) (flOpen (shF h (shN h)) P a x o) (shN h) = _ from if_pos rfl]
  have eS : bkStep (lgB C) (shN h, 0, shT h, a, x, o) = (bkN (lgB C) + 1, upf (bkF (lgB C)) (shN h) [(0, a, x, o)], bkO (lgB C), bkP (lgB C) + 1) := by
    unfold bkStep
    rw [if_pos rfl]
    show (shN h + 1, _) = _
    rw [s1]
    rfl
  rw [eB]
  refine ⟨⟨ShR_same r2 rfl rfl rfl rfl, ?_, tB, fun m hm => ?_⟩, ⟨List.prefix_append _ _, ?_, t1, by show shQ h ≤ shQ u; omega, tU, fun _ _ => ⟨noG.one C (show 0 ≠ 14 by omega), works_upX (ShR_same r2 rfl rfl rfl rfl) (by show shL u ≠ -1; rw [f1]; exact hl)⟩, fun m hm => ?_⟩, f1, rfl, fun m hm => if_neg hm⟩
  rotate_left
  rotate_left
  rotate_left
  · have hm : m < shN h + 1 := hm
    show flK (upf (shF h) (shN h) (flRun (flOpen (shF h (shN h)) P a x o) now).2 m) = 0 ∨ (m < shN h ∧ flK (upf (shF h) (shN h) (flRun (flOpen (shF h (shN h)) P a x o) now).2 m) = flK (shF h m))
    by_cases c : m = shN h
    · rw [show upf (shF h) (shN h) _ m = (flRun (flOpen (shF h (shN h)) P a x o) now).2 from if_pos c]; exact Or.inl fK
    · rw [show upf (shF h) (shN h) _ m = shF h m from if_neg c]; exact Or.inr ⟨by omega, rfl⟩
  · rw [lgB_snoc, eS]
    refine ⟨by show shN h + 1 = _; rw [s1], t5.trans s2, fun m hm => ?_⟩
    show flZ vs (upf (bkF (lgB C)) (shN h) [(0, a, x, o)] m) (upf (shF h) (shN h) (flRun (flOpen (shF h (shN h)) P a x o) now).2 m)
    by_cases c : m = shN h
    · rw [show upf (bkF (lgB C)) (shN h) [(0, a, x, o)] m = _ from if_pos c, show upf (shF h) (shN h) _ m = _ from if_pos c]; exact fZ
    · rw [show upf (bkF (lgB C)) (shN h) [(0, a, x, o)] m = _ from if_neg c, show upf (shF h) (shN h) _ m = _ from if_neg c]
      exact s3 m (by have hm : m < bkN (lgB C) + 1 := hm; omega)
  · have hm : m < shN h + 1 := hm
    show flK (upf (shF h) (shN h) (flRun (flOpen (shF h (shN h)) P a x o) now).2 m) = 0 ∨ (wkP (flW (upf (shF h) (shN h) (flRun (flOpen (shF h (shN h)) P a x o) now).2 m)) = 0 ∧ shL u ≠ -1)
    by_cases c : m = shN h
    · rw [show upf (shF h) (shN h) _ m = (flRun (flOpen (shF h (shN h)) P a x o) now).2 from if_pos c]; exact Or.inl fK
    · rw [show upf (shF h) (shN h) _ m = shF h m from if_neg c, f1]
      exact hI.2.2.2 m (by omega)
  · unfold shY
    show shQ u + 2 * fusN (shZ u) (shD u) + (if shL u = -1 then 1 else 0) + leaN (shN h + 1) (upf (shF h) (shN h) (flRun (flOpen (shF h (shN h)) P a x o) now).2) + lgW C ≤ shQ h + 2 * fusN (shZ h) (shD h) + (if shL h = -1 then 1 else 0) + leaN (shN h) (shF h) + lgW (C ++ [(shN h, 0, shT h, a, x, o)])
    have h9 : leaN (shN h + 1) (upf (shF h) (shN h) (flRun (flOpen (shF h (shN h)) P a x o) now).2) = leaN (shN h) (shF h) := by
      show leaN (shN h) _ + (if flK (upf (shF h) (shN h) (flRun (flOpen (shF h (shN h)) P a x o) now).2 (shN h)) = 0 then 0 else 1) = _
      rw [show upf (shF h) (shN h) (flRun (flOpen (shF h (shN h)) P a x o) now).2 (shN h) = _ from if_pos rfl, if_pos fK]
      exact sumN_congr _ (fun i hi => by rw [show upf (shF h) (shN h) (flRun (flOpen (shF h (shN h)) P a x o) now).2 i = _ from if_neg (by omega)])
    have hw : lgW (C ++ [(shN h, 0, shT h, a, x, o)]) = lgW C + 1 := by
      unfold lgW
      rw [evC_snoc, goC_snoc, if_pos (show 0 ≤ 12 by omega), if_neg (show ¬ 0 = 14 by omega)]
      omega
    rw [f1, t1, t6, hw, h9]
    omega
theorem shBegin_I {vs : Nat → List Prg} (hv : vsOK vs) (now : Int32) {h : Shd} {C : List Rec} (hI : ShI vs h C) (hl : shL h ≠ -1) (hN : shN h < 16) {p : Nat} (hp : p < 8) (hne : vs p ≠ []) (x o : Int32) :
    ∃ E, ShI vs (shBegin vs now h p x o).2 E ∧ Gr true h C (shBegin vs now h p x o).2 E ∧ ((shBegin vs now h p x o).1 = true → shN (shBegin vs now h p x o).2 = shN h + 1) ∧ ((shBegin vs now h p x o).1 = false → shL (shBegin vs now h p x o).2 = -1 ∧ E = C) ∧
      (shL (shBegin vs now h p x o).2 ≠ -1 → shL (shBegin vs now h p x o).2 = shL h ∧ wkP (flW (shF (shBegin vs now h p x o).2 (shN h))) ≠ 5 ∧ ∀ m, m ≠ shN h → shF (shBegin vs now h p x o).2 m = shF h m) ∧ (shL (shBegin vs now h p x o).2 = -1 → upsN (shZ h) (shD (shBegin vs now h p x o).2) + 1 ≤ upsN (shZ h) (shD h)) := by
  obtain ⟨P, hP, -, ha⟩ := bgA_ok hv hp hne
  have s1 := hI.2.1.1
  have hr : rcOK vs (lgB C) (shN h, 0, shT h, bgA vs p, x, o) := Or.inl ⟨rfl, s1, by omega, ha, P, hP⟩
  rw [shBegin_eq]
  by_cases c : (shCommit h 0 (shN h) (bgA vs p) x o).1 = false
  · rw [if_pos c]
    obtain ⟨a1, a2, a3, a4, a5⟩ := fail_I hI hl 0 (shN h) (bgA vs p) x o hr c
    exact ⟨C, a1, a2, fun q => (by cases q), fun _ => ⟨a3, rfl⟩, fun q => absurd a3 q, fun _ => a5⟩
  · rw [if_neg c]
    have c1 : (shCommit h 0 (shN h) (bgA vs p) x o).1 = true := by cases hc : (shCommit h 0 (shN h) (bgA vs p) x o).1 with
      | true => rfl
      | false => exact absurd hc c
    obtain ⟨a1, a2, a3, a4, a6⟩ := born_I hI hl hN hP ha now c1
    obtain ⟨E, b1, b2, b3, b4, b5⟩ := shGoL_I now (shN h) 60 _ _ a1 (by rw [a3]; exact hl) (by rw [a4]; omega) (by omega)
    refine ⟨E, b1, a2.tr b2, fun _ => b3.trans a4, fun q => (by cases q), fun q => ?_, fun q => ?_⟩
    · obtain ⟨d1, d2, d3⟩ := b4 q
      exact ⟨d1.trans a3, d2, fun m hm => (d3 m hm).trans (a6 m hm)⟩
    · have d := b5 q
      have e := a2.2.2.2.2.1
      rw [a2.2.2.1] at d
      exact Nat.le_trans d e
theorem phase_hasW {P : Prg} : ∀ (es : List Evt), 0 < es.length → (wkP (rpA P es) = 0 ∨ wkP (rpR P es) = 0) → hasW es := fun es => by
  generalize hn : es.length = n
  induction n generalizing es with
  | zero => intro h; exact absurd h (by decide)
  | succ n ih =>
    intro _ hp
    have run0 : ∀ (k : Nat) (W : Wkr) (o : Int32) (xs : List Evt), wkP (wkRun P o 0 xs k W).2 = 0 → wkP W = 0 := by
      intro k
      induction k with
      | zero => intro W o xs h; exact h
      | succ k ihk =>
        intro W o xs h
        unfold wkRun at h
        by_cases c : wkP W ≠ 5
        · rw [if_pos c] at h; exact h
        · rw [if_neg c] at h
          cases hw : wkWish P o 0 W with
          | some q => rw [hw] at h; exact h
          | none =>
            rw [hw] at h
            have h := ihk _ _ _ h
            rcases wkWalk_or P xs W with ⟨-, g⟩ | g
            · rw [g] at h; exact h
            · omega
    have hA : wkP (rpA P es) = 0 := hp.elim id (fun q => run0 _ _ _ _ q)
    rcases Nat.eq_zero_or_pos n with h0 | h0
    · obtain ⟨e, rfl⟩ : ∃ e, es = [e] := by
        cases es with
        | nil => cases hn
        | cons e r =>
          refine ⟨e, ?_⟩
          have : r.length = 0 := by rw [List.length_cons] at hn; omega
          rw [List.length_eq_zero_iff.mp this]
      rw [rpA_one] at hA
      exact absurd hA (show ¬ 5 = 0 by decide)
    · obtain ⟨A, e, rfl⟩ : ∃ A e, es = A ++ [e] := by
        refine ⟨es.dropLast, es.getLast (by intro q; rw [q] at hn; cases hn), (List.dropLast_concat_getLast _).symm⟩
      have hl : A.length = n := by rw [List.length_append] at hn; simpa using hn
      rw [hasW_snoc]
      rw [rpA_snoc P e (by omega)] at hA
      by_cases c1 : e.1 = 1
      · exact Or.inr c1
      · left
        refine ih A hl (by omega) (Or.inr ?_)
        unfold wkTake at hA
        rw [if_neg c1] at hA
        have e5 : ∀ U : Wkr, wkP (wkResume U) = 0 → False := fun U q => absurd q (show ¬ 5 = 0 by decide)
        split at hA
        · exact absurd hA (show ¬ 1 = 0 by decide)
        · split at hA
          · exact hA
          · split at hA
            · exact hA
            · split at hA
              · exact (e5 _ hA).elim
              · split at hA
                · exact (e5 _ hA).elim
                · split at hA
                  · split at hA
                    · exact (e5 _ hA).elim
                    · exact hA
                  · split at hA
                    · split at hA
                      · exact (e5 _ hA).elim
                      · exact hA
                    · exact absurd hA (show ¬ 4 = 0 by decide)
theorem ShI.task {vs : Nat → List Prg} {h : Shd} {C : List Rec} (hI : ShI vs h C) {n : Nat} (hn : n < shN h) (h0 : wkP (flW (shF h n)) = 0) : ((flT (shF h n)).1, (flT (shF h n)).2.1) = lwk (flE (shF h n)) ∧ ∃ k, 1 ≤ k ∧ k ≤ 4 ∧ (flT (shF h n)).2.2.1 = nI k := by
  obtain ⟨l1, -, -, -, l5⟩ := hI.len hn
  have hz := hI.2.1.2.2 n (by rw [← hI.2.1.1]; exact hn)
  exact hz.2.2.2 (phase_hasW _ l1 (Or.inr (by rw [← l5]; exact h0)))
/-- a task fails: its next try, or it is given up -/
theorem shFail_I {vs : Nat → List Prg} (now : Int32) {h : Shd} {C : List Rec} (hI : ShI vs h C) (hl : shL h ≠ -1) {n : Nat} (hn : n < shN h) (h0 : wkP (flW (shF h n)) = 0) (hk : flK (shF h n) ≠ 0) :
    ∃ E, ShI vs (shFail now h n).2 E ∧ Gr true h C (shFail now h n).2 E ∧ brP n h (shFail now h n).2 ∧ ((shFail now h n).1 = false → shL (shFail now h n).2 = -1 ∧ E = C) := by
  obtain ⟨t1, k, k1, k2, k3⟩ := hI.task hn h0
  obtain ⟨l1, l2, l3, l4, l5⟩ := hI.len hn
  have ek : (flT (shF h n)).2.2.1 + 1 = nI (k + 1) := by rw [k3]; exact zi_add k 1
  by_cases c5 : 5 ≤ (flT (shF h n)).2.2.1 + 1
  · have e : shFail now h n = shBring now h n 3 (-1) 0 0 := by
      unfold shFail
      simp only []
      rw [if_pos c5]
    rw [e]
    refine shBring_I now hI hl hn ?_
    rw [l5] at h0
    exact ⟨by omega, by show 3 < 13; decide, by show 3 ≠ 0; decide, Or.inr (Or.inr (Or.inr (Or.inl ⟨h0, Or.inr rfl⟩)))⟩
  · have k4 : k + 1 ≤ 4 := by
      rw [ek] at c5
      have : ¬ 5 ≤ k + 1 := fun q => c5 ((zi_le (a := 5) (by omega) (by omega)).mpr q)
      omega
    generalize hs : now + (1 <<< (((flT (shF h n)).2.2.1 + 1 - 1) &&& 31)) = since
    have e : shFail now h n = if (shCommit h 15 n ((flT (shF h n)).2.2.1 + 1) since 0).1 = false then (false, (shCommit h 15 n ((flT (shF h n)).2.2.1 + 1) since 0).2) else (true, shSetF (shCommit h 15 n ((flT (shF h n)).2.2.1 + 1) since 0).2 n (flP (shF (shCommit h 15 n ((flT (shF h n)).2.2.1 + 1) since 0).2 n), flE (shF (shCommit h 15 n ((flT (shF h n)).2.2.1 + 1) since 0).2 n), flW (shF (shCommit h 15 n ((flT (shF h n)).2.2.1 + 1) since 0).2 n), tkReady (flT (shF (shCommit h 15 n ((flT (shF h n)).2.2.1 + 1) since 0).2 n)) ((flT (shF h n)).2.2.1 + 1) since)) := by
      unfold shFail
      simp only []
      rw [if_neg c5, hs]
    rw [e, ek]
    obtain ⟨s1, s2, s3⟩ := hI.2.1
    have hr : rcOK vs (lgB C) (n, 15, shT h, nI (k + 1), since, 0) := Or.inr (Or.inr (Or.inr (Or.inl ⟨rfl, by show n < bkN _; omega, k + 1, by omega, k4, rfl⟩)))
    by_cases c : (shCommit h 15 n (nI (k + 1)) since 0).1 = false
    · rw [if_pos c]
      obtain ⟨a1, a2, a3, a4, a5⟩ := fail_I hI hl 15 n (nI (k + 1)) since 0 hr c
      exact ⟨C, a1, a2, ⟨a1.2.1.1.trans s1.symm, fun q => absurd a3 q, fun _ => a5⟩, fun _ => ⟨a3, rfl⟩⟩
    · rw [if_neg c]
      have hq : (shCommit h 15 n (nI (k + 1)) since 0).1 = true := by cases hc : (shCommit h 15 n (nI (k + 1)) since 0).1 with
        | true => rfl
        | false => exact absurd hc c
      obtain ⟨l, ⟨w1, w2, w3, w4, w5⟩, hC⟩ := hI.w hl
      obtain ⟨⟨s, -⟩, s8, -⟩ := shCommit_cut w2 w1 hI.1.1 w3 15 n (nI (k + 1)) since 0
      obtain ⟨f1, f2⟩ := s8 hq
      obtain ⟨r2, -⟩ := shCommit_R hI.1 hl 15 n (nI (k + 1)) since 0 (lgV_snoc hI.v hr)
      have r2 := (r2 hq).1
      obtain ⟨⟨z1, z2, z4, z5, z6⟩, z7⟩ := id s
      have tB := ShB_cm hI.2.2.1 s
      have tF := fusN_dn (fun x hx => (z7 x hx).1)
      have tU := upsN_dn (fun x hx => (z7 x hx).1)
      have eS : bkStep (lgB C) (n, 15, shT h, nI (k + 1), since, 0) = (bkN (lgB C), bkF (lgB C), bkO (lgB C), bkP (lgB C) + 1) := rfl
      generalize (shCommit h 15 n (nI (k + 1)) since 0).2 = u at *
      rw [f2]
      refine ⟨C ++ [(n, 15, shT h, nI (k + 1), since, 0)], ⟨ShR_same r2 rfl rfl rfl rfl, ?_, tB, fun m hm => ?_⟩, ⟨List.prefix_append _ _, ?_, z1, by show shQ h ≤ shQ u; omega, tU, fun _ _ => ⟨noG.one C (show 15 ≠ 14 by omega), works_upX (ShR_same r2 rfl rfl rfl rfl) (by show shL u ≠ -1; rw [f1]; exact hl)⟩, tkLe_up z4 (by show upf (shF u) n _ = _; rw [f2]) (Or.inl rfl)⟩, ⟨z4, fun _ => ⟨f1, ?_, fun m hm => ?_⟩, fun q => absurd (f1.symm.trans q) hl⟩, fun q => (by cases q)⟩
      · rw [lgB_snoc, eS]
        refine ⟨z4.trans s1, z5.trans s2, fun m hm => ?_⟩
        show flZ vs (bkF (lgB C) m) (upf (shF u) n _ m)
        rw [f2]
        by_cases c : m = n
        · rw [show upf (shF h) n _ m = _ from if_pos c, c]
          obtain ⟨y1, y2, y3, y4⟩ := s3 n (by omega)
          exact ⟨y1, y2, y3, fun hw => ⟨(y4 hw).1, k + 1, by omega, k4, rfl⟩⟩
        · rw [show upf (shF h) n _ m = _ from if_neg c]; exact s3 m hm
      · have hm : m < shN u := hm
        show flK (upf (shF u) n _ m) = 0 ∨ (wkP (flW (upf (shF u) n _ m)) = 0 ∧ shL u ≠ -1)
        rw [f2]
        by_cases c : m = n
        · rw [show upf (shF h) n _ m = _ from if_pos c]; exact Or.inl rfl
        · rw [show upf (shF h) n _ m = _ from if_neg c, f1]
          exact hI.2.2.2 m (by omega)
      · unfold shY
        show shQ u + 2 * fusN (shZ u) (shD u) + (if shL u = -1 then 1 else 0) + leaN (shN u) (upf (shF u) n (flP (shF h n), flE (shF h n), flW (shF h n), tkReady (flT (shF h n)) (nI (k + 1)) since)) + lgW C ≤ shQ h + 2 * fusN (shZ h) (shD h) + (if shL h = -1 then 1 else 0) + leaN (shN h) (shF h) + lgW (C ++ [(n, 15, shT h, nI (k + 1), since, 0)])
        have h9 : leaN (shN u) (upf (shF u) n (flP (shF h n), flE (shF h n), flW (shF h n), tkReady (flT (shF h n)) (nI (k + 1)) since)) + 1 ≤ leaN (shN h) (shF h) := by
          rw [z4, f2]
          exact leaN_upf_lt hn rfl hk
        have hw := lgW_pre (List.prefix_append C [(n, 15, shT h, nI (k + 1), since, 0)])
        rw [f1, z1, z6]
        omega
      · show wkP (flW (upf (shF u) n _ n)) ≠ 5
        rw [show upf (shF u) n _ n = _ from if_pos rfl]
        show wkP (flW (shF h n)) ≠ 5
        omega
      · show upf (shF u) n _ m = _
        rw [show upf (shF u) n _ m = _ from if_neg hm, f2]
/-- a message is gone -/
theorem shForget_I {vs : Nat → List Prg} {h : Shd} {C : List Rec} (hI : ShI vs h C) (hl : shL h ≠ -1) {p : Nat} (hp : ∃ m ∈ shO h, m.1 = p) (hQ : shQ h < 2147483648) :
    ∃ E, ShI vs (shForget h p) E ∧ Gr false h C (shForget h p) E ∧ shN (shForget h p) = shN h ∧ (shL (shForget h p) ≠ -1 → shL (shForget h p) = shL h ∧ shF (shForget h p) = shF h ∧ shO (shForget h p) = (shO h).filter (fun m => m.1 ≠ p)) ∧ (shL (shForget h p) = -1 → upsN (shZ h) (shD (shForget h p)) + 1 ≤ upsN (shZ h) (shD h)) := by
  obtain ⟨s1, s2, s3⟩ := hI.2.1
  obtain ⟨m0, hm0, em0⟩ := hp
  rw [s2] at hm0
  obtain ⟨l, ⟨w1, w2, w3, w4, w5⟩, hC⟩ := hI.w hl
  have hCl : C.length ≤ shQ h := by rw [hC]; exact (hI.2.2.1.2.1 l w1).1
  have g3 := (bkG_log hI.v).2.2.1
  have hpl : p < bkP (lgB C) := by rw [← em0]; exact (g3 m0 hm0).1
  have hr : rcOK vs (lgB C) (0, 14, shT h, nI p, 0, 0) := Or.inr (Or.inr (Or.inl ⟨rfl, rfl, p, ⟨m0, hm0, em0⟩, hpl, rfl⟩))
  have e : shForget h p = if (shCommit h 14 0 (nI p) 0 0).1 = false then (shCommit h 14 0 (nI p) 0 0).2 else shSetO (shCommit h 14 0 (nI p) 0 0).2 ((shO (shCommit h 14 0 (nI p) 0 0).2).filter (fun m => m.1 ≠ p)) := rfl
  rw [e]
  by_cases c : (shCommit h 14 0 (nI p) 0 0).1 = false
  · rw [if_pos c]
    obtain ⟨a1, a2, a3, a4, a5⟩ := fail_I hI hl 14 0 (nI p) 0 0 hr c
    exact ⟨C, a1, a2, a1.2.1.1.trans s1.symm, fun q => absurd a3 q, fun _ => a5⟩
  · rw [if_neg c]
    have hq : (shCommit h 14 0 (nI p) 0 0).1 = true := by cases hc : (shCommit h 14 0 (nI p) 0 0).1 with
      | true => rfl
      | false => exact absurd hc c
    obtain ⟨⟨s, -⟩, s8, -⟩ := shCommit_cut w2 w1 hI.1.1 w3 14 0 (nI p) 0 0
    obtain ⟨f1, f2⟩ := s8 hq
    obtain ⟨r2, -⟩ := shCommit_R hI.1 hl 14 0 (nI p) 0 0 (lgV_snoc hI.v hr)
    have r2 := (r2 hq).1
    obtain ⟨⟨z1, z2, z4, z5, z6⟩, z7⟩ := id s
    have tB := ShB_cm hI.2.2.1 s
    have tF := fusN_dn (fun x hx => (z7 x hx).1)
    have tU := upsN_dn (fun x hx => (z7 x hx).1)
    have eS : bkStep (lgB C) (0, 14, shT h, nI p, 0, 0) = (bkN (lgB C), bkF (lgB C), (bkO (lgB C)).filter (fun m => Int32.ofNat m.1 ≠ nI p), bkP (lgB C) + 1) := rfl
    generalize (shCommit h 14 0 (nI p) 0 0).2 = u at *
    have eF : (bkO (lgB C)).filter (fun m => Int32.ofNat m.1 ≠ nI p) = (bkO (lgB C)).filter (fun m => m.1 ≠ p) := by
      refine List.filter_congr (fun m hm => ?_)
      have h1 := (g3 m hm).1
      rw [lgB_place] at h1 hpl
      have : Int32.ofNat m.1 = nI p ↔ m.1 = p := zi_eq (by omega) (by omega)
      by_cases c : m.1 = p
      · simp [c, nI]
      · have c2 : ¬ Int32.ofNat m.1 = nI p := fun q => c (this.mp q)
        simp [c, c2]
    refine ⟨C ++ [(0, 14, shT h, nI p, 0, 0)], ⟨ShR_same r2 rfl rfl rfl rfl, ?_, tB, fun m hm => ?_⟩, ⟨List.prefix_append _ _, ?_, z1, by show shQ h ≤ shQ u; omega, tU, fun q => (by cases q), fun m hm => Or.inr ⟨by have hm : m < shN u := hm; omega, by show flK (shF u m) = _; rw [f2]⟩⟩, z4, fun _ => ⟨f1, f2, ?_⟩, fun q => absurd (f1.symm.trans q) hl⟩
    · rw [lgB_snoc, eS, eF]
      refine ⟨z4.trans s1, ?_, fun m hm => ?_⟩
      · show (shO u).filter _ = _
        rw [z5, s2]
      · show flZ vs (bkF (lgB C) m) (shF u m)
        rw [f2]; exact s3 m hm
    · have hm : m < shN u := hm
      show flK (shF u m) = 0 ∨ (wkP (flW (shF u m)) = 0 ∧ shL u ≠ -1)
      rw [f2, f1]
      exact hI.2.2.2 m (by omega)
    · unfold shY
      show shQ u + 2 * fusN (shZ u) (shD u) + (if shL u = -1 then 1 else 0) + leaN (shN u) (shF u) + lgW C ≤ shQ h + 2 * fusN (shZ h) (shD h) + (if shL h = -1 then 1 else 0) + leaN (shN h) (shF h) + lgW (C ++ [(0, 14, shT h, nI p, 0, 0)])
      have hw : lgW (C ++ [(0, 14, shT h, nI p, 0, 0)]) = lgW C + 1 := by
        unfold lgW
        rw [evC_snoc, goC_snoc, if_neg (show ¬ 14 ≤ 12 by omega), if_pos (show 14 = 14 from rfl)]
        omega
      rw [f1, z1, z6, z4, f2, hw]
      omega
    · show (shO u).filter _ = _
      rw [z5]
/-! ELECTIONS -/
def calm (h : Shd) : Prop := ∀ n, n < shN h → wkP (flW (shF h n)) ≠ 5
theorem shAlike_dn (h : Shd) (l : Nat) : ∀ x, dkDn (shD h x) (shAlike h l x) ∧ (dkOK (shD h x) → dkOK (shAlike h l x)) := fun x => by
  unfold shAlike
  split
  · exact ⟨dkDn_alike _ _, fun q => dkOK_alike _ q⟩
  · exact ⟨dkDn_rf _, fun q => q⟩
theorem shAlike_len {h : Shd} {l : Nat} (hl : l < shZ h) (hb : ∀ x, x < shZ h → (dkL (shD h x)).length ≤ shQ h) : ∀ x, x < shZ h → (dkL (shAlike h l x)).length ≤ shQ h := fun x hx => by
  unfold shAlike
  split
  · exact Nat.le_trans (dkLen_alike _ _) (hb l hl)
  · exact hb x hx
/-- an election: what it leaves -/
theorem shElect_I {vs : Nat → List Prg} {h : Shd} {C : List Rec} (hI : ShI vs h C) (hl : shL h = -1) (hm : shMost h = true) :
    ((shElect h).1 = true → ∃ E, C <+: E ∧ ShR (lgV vs) (shElect h).2 E ∧ ShB (shElect h).2 ∧ shL (shElect h).2 ≠ -1 ∧ shLog (shElect h).2 = E ∧ shZ (shElect h).2 = shZ h ∧ shQ (shElect h).2 = shQ h + 1 ∧ fusN (shZ h) (shD (shElect h).2) ≤ fusN (shZ h) (shD h) ∧ upsN (shZ h) (shD (shElect h).2) ≤ upsN (shZ h) (shD h) ∧ (upX h C → noG C E)) ∧
    ((shElect h).1 = false → ShI vs (shElect h).2 C ∧ Gr true h C (shElect h).2 C ∧ shL (shElect h).2 = -1 ∧ upsN (shZ h) (shD (shElect h).2) + 1 ≤ upsN (shZ h) (shD h)) := by
  obtain ⟨l, c1, c2, c3, c4, r1, r2⟩ := shElect_R (lgV_nil vs) (lgV_pre vs) (lgV_lead vs) hI.1 hm
  have h5 := hI.1.1
  obtain ⟨b1, b2, b3⟩ := hI.2.2.1
  have eE := shElect_eq c1 (by omega)
  have hu : dkU (shD h l) = true := by
    obtain ⟨l2, d1, d2, d3, -⟩ := shCand_of h5 hm
    have : l2 = l := by
      rw [c1] at d1
      exact ((zi_eq (by omega) (by omega)).mp d1).symm
    rw [← this]; exact d3
  have eal : shAlike h l l = shD h l := by unfold shAlike; rw [if_neg (by omega)]
  obtain ⟨⟨s, s9⟩, k1, k2⟩ := shCommit_cut (h := (shZ h, nI l, shT h + 1, shAlike h l, shN h, shF h, shO h, shQ h)) (l := l) rfl c2 h5 (by show dkU (shAlike h l l) = true; rw [eal]; exact hu) 13 0 (nI l) 0 0
  rw [← eE] at s s9 k1 k2
  obtain ⟨⟨s1, s2, s3, s4, s5⟩, s6⟩ := s
  have dn : ∀ x, x < shZ h → dkDn (shD h x) (shD (shElect h).2 x) := fun x hx => dkDn_tr (shAlike_dn h l x).1 (s6 x hx).1
  have lens := shAlike_len c2 (fun x hx => (b2 x hx).1)
  have hB : ShB (shElect h).2 := by
    refine ⟨by rw [s1]; exact b1, fun x hx => ?_, by rw [s2, s5]; show shT h + 1 ≤ shQ h + 1; omega⟩
    have hx : x < shZ h := by rw [s1] at hx; exact hx
    obtain ⟨y1, y2, y3⟩ := s6 x hx
    refine ⟨?_, y3 ((shAlike_dn h l x).2 (b2 x hx).2.1), dkDn_off (dn x hx) (b2 x hx).2.2⟩
    rw [s5]
    exact Nat.le_trans y2 (Nat.succ_le_succ (lens x hx))
  refine ⟨fun q => ?_, fun q => ?_⟩
  · obtain ⟨r3, r4⟩ := r1 q
    refine ⟨_, c3.trans (List.prefix_append _ _), r3, hB, by rw [r4]; exact zi_ne1 (by omega), ?_, s1, s5, fusN_dn dn, upsN_dn dn, fun hu9 => (hu9 l c2 hu).tr (noG.one _ (show 13 ≠ 14 by omega))⟩
    obtain ⟨-, P, Q, -, -, -, -, hW⟩ := r3
    obtain ⟨l2, w, -, hC⟩ := hW (by rw [r4]; exact zi_ne1 (by omega))
    rw [hC]
    have : shZ (shElect h).2 = shZ h := s1
    exact (shLog_of w.2.1 (by have := w.1; omega)).1
  · obtain ⟨r3, r4⟩ := r2 q
    obtain ⟨f1, f2, f3⟩ := k2 q
    obtain ⟨g1, g2⟩ := fall_of dn s1 c2 hu hm f3
    refine ⟨⟨r3, losF_Z hI.2.1 s3 s4 f2, hB, losF_T s3 f2⟩, ⟨List.prefix_refl _, ?_, s1, by rw [s5]; show shQ h ≤ shQ h + 1; omega, by omega, fun _ hu9 => ⟨noG.rf C, fun x hx hux => ?_⟩, tkLe_los s3 f2⟩, r4, g2⟩
    rotate_left
    · have hx : x < shZ h := by rw [s1] at hx; exact hx
      obtain ⟨u1, u2⟩ := s9 x hx hux
      have al : dkL (shAlike h l x) = dkL (shD h l) := by
        have u1 : dkU (shAlike h l x) = true := u1
        by_cases c : x = l
        · rw [c, eal]
        · cases cu : dkU (shD h x) with
          | false =>
            have := (shAlike_dn h l x).1.2.2 cu
            rw [u1] at this; cases this
          | true =>
            have e3 : shAlike h l x = dkAlike (shD h x) (shD h l) := by unfold shAlike; rw [if_pos ⟨hx, c, cu⟩]
            rw [e3] at u1 ⊢
            obtain ⟨j, -, -, ha⟩ := dkAlike_or (shD h x) (shD h l)
            exact ha u1
      have u2 : dkL (shD (shElect h).2 x) = dkL (shAlike h l x) ∨ dkL (shD (shElect h).2 x) = dkL (shAlike h l x) ++ [(0, 13, shT h + 1, nI l, 0, 0)] := u2
      rw [al] at u2
      have n1 := hu9 l c2 hu
      rcases u2 with u2 | u2
      · rw [u2]; exact n1
      · rw [u2]; exact n1.tr (noG.one _ (show 13 ≠ 14 by omega))
    unfold shY
    rw [r4, hl, if_pos rfl, s5, s1, s3, f2]
    show shQ h + 1 + 2 * fusN (shZ h) (shD (shElect h).2) + 1 + leaN (shN h) (losF (shN h) (shF h)) + lgW C ≤ shQ h + 2 * fusN (shZ h) (shD h) + 1 + leaN (shN h) (shF h) + lgW C
    rw [leaN_losF]
    omega
theorem leaN_zero {N : Nat} {F : Nat → Flw} (h : ∀ n, n < N → flK (F n) = 0) : leaN N F = 0 := by
  have : leaN N F ≤ N * 0 := sumN_le N _ (fun i hi => by show (if flK (F i) = 0 then 0 else 1) ≤ 0; rw [if_pos (h i hi)]; exact Nat.le_refl _)
  omega
/-- the new leader reads its log -/
theorem built_I {vs : Nat → List Prg} (now : Int32) {h : Shd} {C : List Rec} (hI : ShI vs h C) (hl : shL h = -1) (hm : shMost h = true) (hq : (shElect h).1 = true) :
    ∃ E, ShI vs (shBuild vs now (shElect h).2) E ∧ Gr true h C (shBuild vs now (shElect h).2) E ∧ shL (shBuild vs now (shElect h).2) ≠ -1 := by
  obtain ⟨E, e1, e2, e3, e4, e5, e6, e7, e8, e9, e10⟩ := (shElect_I hI hl hm).1 hq
  have hV : lgV vs E := e2.v (lgV_pre vs)
  obtain ⟨z, k⟩ := shBuild_st (vs := vs) (h := (shElect h).2) now (by rw [e5]; exact hV)
  rw [e5] at z
  obtain ⟨d1, d2, d3, d4, d5⟩ := shBuild_same vs now (shElect h).2
  refine ⟨E, ⟨ShR_same e2 d1 d2 d3 d4, z, ?_, fun n hn => Or.inl (k n hn)⟩, ⟨e1, ?_, d1.trans e6, by omega, by rw [d4]; exact e9, fun _ hu => ⟨e10 hu, works_upX (ShR_same e2 d1 d2 d3 d4) (by rw [d2]; exact e4)⟩, fun n hn => Or.inl (k n hn)⟩, by rw [d2]; exact e4⟩
  · unfold ShB at e3 ⊢
    rw [d1, d3, d4, d5]; exact e3
  · unfold shY
    rw [d2, if_neg e4, hl, if_pos rfl, d1, d4, d5, e6, e7, leaN_zero (fun n hn => k n hn)]
    have := lgW_pre e1
    omega
theorem shAll_I {vs : Nat → List Prg} (now : Int32) : ∀ (k n : Nat) (h : Shd) (C : List Rec), ShI vs h C → shL h ≠ -1 → n + k = shN h → (∀ m, m < n → wkP (flW (shF h m)) ≠ 5) →
    ∃ E, ShI vs (shAll now k n h) E ∧ Gr true h C (shAll now k n h) E ∧ (shL (shAll now k n h) ≠ -1 → calm (shAll now k n h)) ∧ (shL (shAll now k n h) = -1 → upsN (shZ h) (shD (shAll now k n h)) + 1 ≤ upsN (shZ h) (shD h))
  | 0, n, h, C, hI, hl, hk, hc => ⟨C, hI, Gr.rf true h C, fun _ m hm => hc m (by have hm : m < shN h := hm; omega), fun q => absurd q hl⟩
  | k + 1, n, h, C, hI, hl, hk, hc => by
    have e : shAll now (k + 1) n h = shAll now k (n + 1) (shGo now h n) := by
      show (if shWorks h = false then h else _) = _
      rw [if_neg (by unfold shWorks; rw [decide_eq_true hl]; exact fun q => Bool.noConfusion q)]
    rw [e]
    obtain ⟨E, b1, b2, b3, b4, b5⟩ := shGo_I now hI hl (by omega : n < shN h)
    by_cases c : shL (shGo now h n) = -1
    · have e2 : shAll now k (n + 1) (shGo now h n) = shGo now h n := by
        cases k with
        | zero => rfl
        | succ k =>
          show (if shWorks (shGo now h n) = false then shGo now h n else _) = _
          rw [if_pos (by unfold shWorks; rw [c]; rfl)]
      rw [e2]
      exact ⟨E, b1, b2, fun q => absurd c q, b5⟩
    · obtain ⟨d1, d2, d3⟩ := b4 c
      obtain ⟨F, f1, f2, f3, f4⟩ := shAll_I now k (n + 1) (shGo now h n) E b1 c (by omega) (fun m hm => by
        by_cases em : m = n
        · rw [em]; exact d2
        · rw [d3 m em]; exact hc m (by omega))
      refine ⟨F, f1, b2.tr f2, f3, fun q => ?_⟩
      have := f4 q
      have e9 := b2.2.2.2.2.1
      rw [b2.2.2.1] at this
      omega
theorem shElect1_I {vs : Nat → List Prg} (now : Int32) {h : Shd} {C : List Rec} (hI : ShI vs h C) (hl : shL h = -1) (hm : shMost h = true) :
    ∃ E, ShI vs (shElect1 vs now h) E ∧ Gr true h C (shElect1 vs now h) E ∧ (shL (shElect1 vs now h) ≠ -1 → calm (shElect1 vs now h)) ∧ (shL (shElect1 vs now h) = -1 → upsN (shZ h) (shD (shElect1 vs now h)) + 1 ≤ upsN (shZ h) (shD h)) := by
  have e : shElect1 vs now h = if (shElect h).1 = false then (shElect h).2 else shAll now (shN (shBuild vs now (shElect h).2)) 0 (shBuild vs now (shElect h).2) := rfl
  rw [e]
  by_cases c : (shElect h).1 = false
  · rw [if_pos c]
    obtain ⟨a1, a2, a3, a4⟩ := (shElect_I hI hl hm).2 c
    exact ⟨C, a1, a2, fun q => absurd a3 q, fun _ => a4⟩
  · rw [if_neg c]
    have c1 : (shElect h).1 = true := by cases hc : (shElect h).1 with
      | true => rfl
      | false => exact absurd hc c
    obtain ⟨E, a1, a2, a3⟩ := built_I now hI hl hm c1
    obtain ⟨F, f1, f2, f3, f4⟩ := shAll_I now (shN (shBuild vs now (shElect h).2)) 0 _ E a1 a3 (by omega) (fun m hm => absurd hm (Nat.not_lt_zero _))
    refine ⟨F, f1, a2.tr f2, f3, fun q => ?_⟩
    have := f4 q
    have e9 := a2.2.2.2.2.1
    rw [a2.2.2.1] at this
    omega
/-- at rest -/
def ShS (vs : Nat → List Prg) (h : Shd) (C : List Rec) : Prop := ShI vs h C ∧ (shL h ≠ -1 → calm h) ∧ (shL h = -1 → shMost h = false)
theorem shSettle_on (vs : Nat → List Prg) (now : Int32) (i : Nat) {h : Shd} (h1 : shL h = -1) (h2 : shMost h = true) : shSettle vs now (i + 1) h = shSettle vs now i (shElect1 vs now h) := by
  show (if shWorks h = false ∧ shMost h = true then _ else h) = _
  rw [if_pos ⟨by unfold shWorks; rw [h1]; rfl, h2⟩]
theorem shSettle_off (vs : Nat → List Prg) (now : Int32) (i : Nat) {h : Shd} (h1 : shL h ≠ -1 ∨ shMost h = false) : shSettle vs now i h = h := by
  cases i with
  | zero => rfl
  | succ i =>
    show (if shWorks h = false ∧ shMost h = true then _ else h) = _
    rw [if_neg]
    rintro ⟨q1, q2⟩
    rcases h1 with h1 | h1
    · unfold shWorks at q1
      rw [decide_eq_true h1] at q1
      cases q1
    · rw [h1] at q2; cases q2
theorem shSettle_I {vs : Nat → List Prg} (now : Int32) : ∀ (i : Nat) (h : Shd) (C : List Rec), ShI vs h C → (shL h ≠ -1 → calm h) → upsN (shZ h) (shD h) < i →
    ∃ E, ShS vs (shSettle vs now i h) E ∧ Gr true h C (shSettle vs now i h) E ∧ ∀ j, upsN (shZ h) (shD h) < j → shSettle vs now j h = shSettle vs now i h
  | 0, h, C, hI, hc, hi => absurd hi (Nat.not_lt_zero _)
  | i + 1, h, C, hI, hc, hi => by
    by_cases c : shL h = -1 ∧ shMost h = true
    · obtain ⟨E, a1, a2, a3, a4⟩ := shElect1_I now hI c.1 c.2
      by_cases w : shL (shElect1 vs now h) = -1
      · have u := a4 w
        have z := a2.2.2.1
        obtain ⟨F, f1, f2, f3⟩ := shSettle_I now i (shElect1 vs now h) E a1 a3 (by rw [z]; omega)
        rw [shSettle_on vs now i c.1 c.2]
        refine ⟨F, f1, a2.tr f2, fun j hj => ?_⟩
        cases j with
        | zero => omega
        | succ j =>
          rw [shSettle_on vs now j c.1 c.2]
          exact f3 j (by rw [z]; omega)
      · rw [shSettle_on vs now i c.1 c.2, shSettle_off vs now i (Or.inl w)]
        refine ⟨E, ⟨a1, a3, fun q => absurd q w⟩, a2, fun j hj => ?_⟩
        cases j with
        | zero => omega
        | succ j => rw [shSettle_on vs now j c.1 c.2, shSettle_off vs now j (Or.inl w)]
    · have o : shL h ≠ -1 ∨ shMost h = false := by
        by_cases c1 : shL h = -1
        · right
          cases hm : shMost h with
          | false => rfl
          | true => exact absurd ⟨c1, hm⟩ c
        · exact Or.inl c1
      rw [shSettle_off vs now (i + 1) o]
      exact ⟨C, ⟨hI, hc, fun q => o.resolve_left (fun z => z q)⟩, Gr.rf true h C, fun j _ => shSettle_off vs now j o⟩
theorem upsN_le (Z : Nat) (D : Nat → Dk) : upsN Z D ≤ Z := by
  have : upsN Z D ≤ Z * 1 := sumN_le Z _ (fun i _ => by show (if dkU (D i) = true then 1 else 0) ≤ 1; split <;> omega)
  omega
/-- settled: six elections are enough -/
def stl (vs : Nat → List Prg) (now : Int32) (h : Shd) : Shd := shSettle vs now 6 h
theorem stl_I {vs : Nat → List Prg} (now : Int32) {h : Shd} {C : List Rec} (hI : ShI vs h C) (hc : shL h ≠ -1 → calm h) : ∃ E, ShS vs (stl vs now h) E ∧ Gr true h C (stl vs now h) E := by
  have h5 := hI.1.1
  have := upsN_le (shZ h) (shD h)
  obtain ⟨E, e1, e2, -⟩ := shSettle_I now 6 h C hI hc (by omega)
  exact ⟨E, e1, e2⟩
theorem stl_off (vs : Nat → List Prg) (now : Int32) {h : Shd} (h1 : shL h ≠ -1 ∨ shMost h = false) : stl vs now h = h := shSettle_off vs now 6 h1
theorem stl_on {vs : Nat → List Prg} (now : Int32) {h : Shd} {C : List Rec} (hI : ShI vs h C) (h1 : shL h = -1) (h2 : shMost h = true) : stl vs now h = stl vs now (shElect1 vs now h) := by
  have h5 := hI.1.1
  have u5 := upsN_le (shZ h) (shD h)
  obtain ⟨E, a1, a2, a3, a4⟩ := shElect1_I now hI h1 h2
  unfold stl
  rw [shSettle_on vs now 5 h1 h2]
  by_cases w : shL (shElect1 vs now h) = -1
  · have u := a4 w
    have z := a2.2.2.1
    obtain ⟨F, -, -, f3⟩ := shSettle_I now 6 (shElect1 vs now h) E a1 a3 (by rw [z]; omega)
    exact f3 5 (by rw [z]; omega)
  · rw [shSettle_off vs now 5 (Or.inl w), shSettle_off vs now 6 (Or.inl w)]
/-- an act that leaves a shard calm or without a leader, then settled -/
theorem calm_br {n : Nat} {h u : Shd} (hc : calm h) (b : brP n h u) (hl : shL u ≠ -1) : calm u := fun m hm => by
  obtain ⟨b1, b2, -⟩ := b
  obtain ⟨-, d2, d3⟩ := b2 hl
  by_cases e : m = n
  · rw [e]; exact d2
  · rw [d3 m e]; exact hc m (by omega)
theorem bring_S {vs : Nat → List Prg} (now : Int32) {n k : Nat} {h : Shd} {C : List Rec} (hS : ShS vs h C) (hl : shL h ≠ -1) (hn : n < shN h) {a b o : Int32} (ok : evOK (flP (shF h n)) (flE (shF h n)) (k, a, b, o)) :
    ∃ E, ShS vs (stl vs now (shBring now h n k a b o).2) E ∧ Gr true h C (stl vs now (shBring now h n k a b o).2) E := by
  obtain ⟨E, a1, a2, a3, -⟩ := shBring_I now hS.1 hl hn ok
  obtain ⟨F, f1, f2⟩ := stl_I now a1 (calm_br (hS.2.1 hl) a3)
  exact ⟨F, f1, a2.tr f2⟩
theorem fail_S {vs : Nat → List Prg} (now : Int32) {n : Nat} {h : Shd} {C : List Rec} (hS : ShS vs h C) (hl : shL h ≠ -1) (hn : n < shN h) (h0 : wkP (flW (shF h n)) = 0) (hk : flK (shF h n) ≠ 0) :
    ∃ E, ShS vs (stl vs now (shFail now h n).2) E ∧ Gr true h C (stl vs now (shFail now h n).2) E := by
  obtain ⟨E, a1, a2, a3, -⟩ := shFail_I now hS.1 hl hn h0 hk
  obtain ⟨F, f1, f2⟩ := stl_I now a1 (calm_br (hS.2.1 hl) a3)
  exact ⟨F, f1, a2.tr f2⟩
theorem begin_S {vs : Nat → List Prg} (hv : vsOK vs) (now : Int32) {h : Shd} {C : List Rec} (hS : ShS vs h C) (hl : shL h ≠ -1) (hN : shN h < 16) {p : Nat} (hp : p < 8) (hne : vs p ≠ []) (x o : Int32) :
    ∃ E, ShS vs (stl vs now (shBegin vs now h p x o).2) E ∧ Gr true h C (stl vs now (shBegin vs now h p x o).2) E := by
  obtain ⟨E, a1, a2, a3, a4, a5, a6⟩ := shBegin_I hv now hS.1 hl hN hp hne x o
  obtain ⟨F, f1, f2⟩ := stl_I now a1 (fun q m hm => by
    obtain ⟨d1, d2, d3⟩ := a5 q
    by_cases e : m = shN h
    · rw [e]; exact d2
    · rw [d3 m e]
      have : (shBegin vs now h p x o).1 = true := by cases hc : (shBegin vs now h p x o).1 with
        | true => rfl
        | false => exact absurd (a4 hc).1 q
      have := a3 this
      exact hS.2.1 hl m (by omega))
  exact ⟨F, f1, a2.tr f2⟩
theorem forget_S {vs : Nat → List Prg} (now : Int32) {h : Shd} {C : List Rec} (hS : ShS vs h C) (hl : shL h ≠ -1) {p : Nat} (hp : ∃ m ∈ shO h, m.1 = p) (hQ : shQ h < 2147483648) :
    ∃ E, ShS vs (stl vs now (shForget h p)) E ∧ Gr false h C (stl vs now (shForget h p)) E := by
  obtain ⟨E, a1, a2, a3, a4, a5⟩ := shForget_I hS.1 hl hp hQ
  obtain ⟨F, f1, f2⟩ := stl_I now a1 (fun q m hm => by
    obtain ⟨d1, d2, d3⟩ := a4 q
    rw [d2]; exact hS.2.1 hl m (by omega))
  exact ⟨F, f1, a2.tr f2.less⟩
