/-! TIME IN A SHARD -/
theorem fired_ok {P : Prg} {es : List Evt} {a b o : Int32} (h : wkP (rpR P es) = 1) : evOK P es (5, a, b, o) := ⟨by omega, by show 5 < 13; decide, by show 5 ≠ 0; decide, Or.inr (Or.inr (Or.inr (Or.inr (Or.inl ⟨h, rfl⟩))))⟩
theorem result_ok {P : Prg} {es : List Evt} {a b o : Int32} (h : wkP (rpR P es) = 0) : evOK P es (2, a, b, o) := ⟨by omega, by show 2 < 13; decide, by show 2 ≠ 0; decide, Or.inr (Or.inr (Or.inr (Or.inl ⟨h, Or.inl rfl⟩)))⟩
theorem signal_ok {P : Prg} {es : List Evt} {a b o : Int32} (h4 : wkP (rpR P es) ≠ 4) (h5 : wkP (rpR P es) ≠ 5) : evOK P es (8, a, b, o) := ⟨h4, by show 8 < 13; decide, by show 8 ≠ 0; decide, Or.inr (Or.inr (Or.inr (Or.inr (Or.inr ⟨h5, Or.inr rfl⟩))))⟩
theorem end_ok {P : Prg} {es : List Evt} {a b o : Int32} (h4 : wkP (rpR P es) ≠ 4) (h5 : wkP (rpR P es) ≠ 5) : evOK P es (7, a, b, o) := ⟨h4, by show 7 < 13; decide, by show 7 ≠ 0; decide, Or.inr (Or.inr (Or.inr (Or.inr (Or.inr ⟨h5, Or.inl rfl⟩))))⟩
theorem cancel_ok {P : Prg} {es : List Evt} {a b o : Int32} (h4 : wkP (rpR P es) ≠ 4) (h5 : wkP (rpR P es) ≠ 5) : evOK P es (11, a, b, o) := ⟨h4, by show 11 < 13; decide, by show 11 ≠ 0; decide, Or.inr (Or.inl ⟨rfl, h5⟩)⟩
/-- a timer of row n is due -/
abbrev dueF (now : Int32) (h : Shd) (n : Nat) : Prop := wkP (flW (shF h n)) = 1 ∧ wkA (flW (shF h n)) ≤ now
abbrev dueL (now : Int32) (h : Shd) (n : Nat) : Prop := wkP (flW (shF h n)) = 0 ∧ 0 < flK (shF h n) ∧ (flT (shF h n)).2.2.2.2.2 ≤ now
theorem works_iff (h : Shd) : shWorks h = true ↔ shL h ≠ -1 := by unfold shWorks; exact decide_eq_true_iff
theorem ShI.rp {vs : Nat → List Prg} {h : Shd} {C : List Rec} (hI : ShI vs h C) {n : Nat} (hn : n < shN h) : flW (shF h n) = rpR (flP (shF h n)) (flE (shF h n)) := (hI.len hn).2.2.2.2
theorem fire_one {vs : Nat → List Prg} (now : Int32) {n : Nat} {h : Shd} {C : List Rec} (hS : ShS vs h C) (hl : shL h ≠ -1) (hn : n < shN h) (hd : wkP (flW (shF h n)) = 1) :
    ∃ E, ShS vs (stl vs now (shBring now h n 5 now 0 0).2) E ∧ Gr true h C (stl vs now (shBring now h n 5 now 0 0).2) E := bring_S now hS hl hn (fired_ok (by rw [← hS.1.rp hn]; exact hd))
theorem shFire_S {vs : Nat → List Prg} (now : Int32) : ∀ (k n : Nat) (h : Shd) (C : List Rec), ShS vs h C → ∃ E, ShS vs (shFire vs now k n h) E ∧ Gr true h C (shFire vs now k n h) E
  | 0, n, h, C, hS => ⟨C, hS, Gr.rf true h C⟩
  | k + 1, n, h, C, hS => by
    show ∃ E, ShS vs (if n < shN h ∧ shWorks h = true then (if dueF now h n then shFire vs now k (n + 1) (stl vs now (shBring now h n 5 now 0 0).2) else shFire vs now k (n + 1) h) else h) E ∧ Gr true h C (if n < shN h ∧ shWorks h = true then (if dueF now h n then shFire vs now k (n + 1) (stl vs now (shBring now h n 5 now 0 0).2) else shFire vs now k (n + 1) h) else h) E
    by_cases c : n < shN h ∧ shWorks h = true
    · rw [if_pos c]
      by_cases d : dueF now h n
      · rw [if_pos d]
        obtain ⟨E, e1, e2⟩ := fire_one now hS ((works_iff h).mp c.2) c.1 d.1
        obtain ⟨F, f1, f2⟩ := shFire_S now k (n + 1) _ E e1
        exact ⟨F, f1, e2.tr f2⟩
      · rw [if_neg d]
        exact shFire_S now k (n + 1) h C hS
    · rw [if_neg c]
      exact ⟨C, hS, Gr.rf true h C⟩
theorem pos_ne {x : Int32} (h : 0 < x) : x ≠ 0 := fun q => by rw [q] at h; exact absurd h (by decide)
theorem shLapse_S {vs : Nat → List Prg} (now : Int32) : ∀ (k n : Nat) (h : Shd) (C : List Rec), ShS vs h C → ∃ E, ShS vs (shLapse vs now k n h) E ∧ Gr true h C (shLapse vs now k n h) E
  | 0, n, h, C, hS => ⟨C, hS, Gr.rf true h C⟩
  | k + 1, n, h, C, hS => by
    show ∃ E, ShS vs (if n < shN h ∧ shWorks h = true then (if dueL now h n then shLapse vs now k (n + 1) (stl vs now (shFail now h n).2) else shLapse vs now k (n + 1) h) else h) E ∧ Gr true h C (if n < shN h ∧ shWorks h = true then (if dueL now h n then shLapse vs now k (n + 1) (stl vs now (shFail now h n).2) else shLapse vs now k (n + 1) h) else h) E
    by_cases c : n < shN h ∧ shWorks h = true
    · rw [if_pos c]
      by_cases d : dueL now h n
      · rw [if_pos d]
        obtain ⟨E, e1, e2⟩ := fail_S now hS ((works_iff h).mp c.2) c.1 d.1 (pos_ne d.2.1)
        obtain ⟨F, f1, f2⟩ := shLapse_S now k (n + 1) _ E e1
        exact ⟨F, f1, e2.tr f2⟩
      · rw [if_neg d]
        exact shLapse_S now k (n + 1) h C hS
    · rw [if_neg c]
      exact ⟨C, hS, Gr.rf true h C⟩
theorem shTime_S {vs : Nat → List Prg} (now : Int32) {h : Shd} {C : List Rec} (hS : ShS vs h C) : ∃ E, ShS vs (shTime vs now h) E ∧ Gr true h C (shTime vs now h) E := by
  obtain ⟨E, e1, e2⟩ := shFire_S now 17 0 h C hS
  obtain ⟨F, f1, f2⟩ := shLapse_S now 17 0 _ E e1
  exact ⟨F, f1, e2.tr f2⟩
/-! THE FOUR SHARDS -/
abbrev Wld : Type := Nat → Shd
/-- the row with that origin -/
def shOrg (h : Shd) (o : Int32) : Option Nat := (List.range (shN h)).find? (fun n => decide (flO (shF h n) = o))
def hasSig (es : List Evt) (o : Int32) : Bool := es.any (fun e => decide (e.1 = 8) && decide (e.2.2.2 = o))
def cntK (k : Nat) (es : List Evt) : Nat := (es.filter (fun e => decide (e.1 = k))).length
/-- an origin of the workflow n of shard s -/
def orgOf (s n k : Nat) : Int32 := -1 - nI (64 * (s + 4 * n) + k)
def wdTell (vs : Nat → List Prg) (now : Int32) (W : Wld) (t m : Nat) (c v : Int32) : Bool × Wld :=
  if wkP (flW (shF (W t) m)) = 4 ∨ (endOf c (flE (shF (W t) m))).isSome = true then (true, W)
  else ((shBring now (W t) m 7 c v 0).1, upf W t (stl vs now (shBring now (W t) m 7 c v 0).2))
def wdSig (vs : Nat → List Prg) (now : Int32) (W : Wld) (t m : Nat) (v o : Int32) : Bool × Wld :=
  if wkP (flW (shF (W t) m)) = 4 ∨ hasSig (flE (shF (W t) m)) o = true then (true, W)
  else ((shBring now (W t) m 8 v 0 o).1, upf W t (stl vs now (shBring now (W t) m 8 v 0 o).2))
def wdBear (vs : Nat → List Prg) (now : Int32) (W : Wld) (s n k : Nat) : Bool × Wld :=
  let es := flE (shF (W s) n)
  let p := (evAt es k).2.1.toNatClampNeg
  let t := (s + p) % 4
  let c := cntK 6 (es.take k)
  if shL (W t) = -1 then (false, W)
  else if (shOrg (W t) (orgOf s n c)).isSome = true ∨ (endOf (nI c) es).isSome = true then (true, W)
  else if shN (W t) < 16 ∧ vs p ≠ [] then ((shBegin vs now (W t) p (evAt es k).2.2.1 (orgOf s n c)).1, upf W t (stl vs now (shBegin vs now (W t) p (evAt es k).2.2.1 (orgOf s n c)).2))
  else wdTell vs now W s n (nI c) (-3)
/-- the program of a child -/
def kidP (es : List Evt) (c : Nat) : Nat := match plcOf 6 es c with
  | none => 0
  | some k => (evAt es k).2.1.toNatClampNeg
def wdSend (vs : Nat → List Prg) (now : Int32) (W : Wld) (s n k : Nat) : Bool × Wld :=
  let es := flE (shF (W s) n)
  let e := evAt es k
  if e.1 = 6 then wdBear vs now W s n k
  else if e.1 = 9 ∧ 0 ≤ e.2.1 then
    let t := (s + kidP es e.2.1.toNatClampNeg) % 4
    if shL (W t) = -1 then (false, W)
    else match shOrg (W t) (orgOf s n e.2.1.toNatClampNeg) with
      | none => (true, W)
      | some m => wdSig vs now W t m e.2.2.1 (orgOf s n k)
  else
    let p := ((-1 - rpO es) / 64).toNatClampNeg
    let t := p % 4
    if shL (W t) = -1 then (false, W)
    else if p / 4 < shN (W t) then
      (if e.1 = 9 then wdSig vs now W t (p / 4) e.2.2.1 (orgOf s n k) else wdTell vs now W t (p / 4) ((-1 - rpO es) - (-1 - rpO es) / 64 * 64) e.2.1)
    else (true, W)
/-- messages that were there, by their places -/
def wdMsgs (vs : Nat → List Prg) (now : Int32) (s : Nat) : List Nat → Wld → Wld
  | [], W => W
  | p :: ps, W => if shL (W s) = -1 then W else match (shO (W s)).find? (fun m => decide (m.1 = p)) with
    | none => wdMsgs vs now s ps W
    | some m => if (wdSend vs now W s m.2.1 m.2.2).1 = true ∧ shL ((wdSend vs now W s m.2.1 m.2.2).2 s) ≠ -1 then wdMsgs vs now s ps (upf (wdSend vs now W s m.2.1 m.2.2).2 s (stl vs now (shForget ((wdSend vs now W s m.2.1 m.2.2).2 s) p)))
      else wdMsgs vs now s ps (wdSend vs now W s m.2.1 m.2.2).2
def wdAll (vs : Nat → List Prg) (now : Int32) (s : Nat) (W : Wld) : Wld := wdMsgs vs now s ((shO (W s)).map (fun m => m.1)) W
def wdTimes (vs : Nat → List Prg) (now : Int32) (W : Wld) : Wld := fun s => if s < 4 then shTime vs now (W s) else W s
def wdTick (vs : Nat → List Prg) (now : Int32) (W : Wld) : Wld := wdAll vs now 3 (wdAll vs now 2 (wdAll vs now 1 (wdAll vs now 0 (wdTimes vs now W))))
/-- all four at rest; K is what calls have allowed -/
def WdS (vs : Nat → List Prg) (K : Nat) (W : Wld) : Prop := ∀ s, s < 4 → ∃ C, ShS vs (W s) C ∧ shY (W s) ≤ lgW C + K
/-- one goes over into the other, and no GONE if g -/
def WdG (vs : Nat → List Prg) (g : Bool) (W U : Wld) : Prop := ∀ s, s < 4 → ∀ C, ShS vs (W s) C → ∃ E, ShS vs (U s) E ∧ Gr g (W s) C (U s) E
theorem WdG.rf (vs : Nat → List Prg) (g : Bool) (W : Wld) : WdG vs g W W := fun s _ C h => ⟨C, h, Gr.rf g _ C⟩
theorem WdG.tr {vs : Nat → List Prg} {g : Bool} {W U X : Wld} (a : WdG vs g W U) (b : WdG vs g U X) : WdG vs g W X := fun s hs C h => by
  obtain ⟨E, e1, e2⟩ := a s hs C h
  obtain ⟨F, f1, f2⟩ := b s hs E e1
  exact ⟨F, f1, e2.tr f2⟩
theorem WdG.less {vs : Nat → List Prg} {W U : Wld} (a : WdG vs true W U) : WdG vs false W U := fun s hs C h => by
  obtain ⟨E, e1, e2⟩ := a s hs C h
  exact ⟨E, e1, e2.less⟩
theorem WdG.on {vs : Nat → List Prg} {g : Bool} {K : Nat} {W U : Wld} (a : WdG vs g W U) (h : WdS vs K W) : WdS vs K U := fun s hs => by
  obtain ⟨C, c1, c2⟩ := h s hs
  obtain ⟨E, e1, e2⟩ := a s hs C c1
  have := e2.2.1
  exact ⟨E, e1, by omega⟩
theorem WdG.one {vs : Nat → List Prg} {g : Bool} {W : Wld} {t : Nat} {u : Shd} (h : ∀ C, ShS vs (W t) C → ∃ E, ShS vs u E ∧ Gr g (W t) C u E) : WdG vs g W (upf W t u) := fun s hs C hC => by
  by_cases c : s = t
  · rw [show upf W t u s = u from if_pos c, c]
    rw [c] at hC
    exact h C hC
  · rw [show upf W t u s = W s from if_neg c]
    exact ⟨C, hC, Gr.rf g _ C⟩
/-- the bound of what has been tried -/
theorem WdS.q {vs : Nat → List Prg} {K : Nat} {W : Wld} (h : WdS vs K W) {s : Nat} (hs : s < 4) : shQ (W s) ≤ 1920 + K := by
  obtain ⟨C, c1, c2⟩ := h s hs
  have := (lgV_bound c1.1.v).1
  unfold shY at c2
  omega
theorem wdTell_G {vs : Nat → List Prg} (now : Int32) {W : Wld} {t m : Nat} {c v : Int32} (hl : shL (W t) ≠ -1) (hm : m < shN (W t)) : WdG vs true W (wdTell vs now W t m c v).2 := by
  unfold wdTell
  by_cases q : wkP (flW (shF (W t) m)) = 4 ∨ (endOf c (flE (shF (W t) m))).isSome = true
  · rw [if_pos q]; exact WdG.rf vs true W
  · rw [if_neg q]
    refine WdG.one (fun C hC => bring_S now hC hl hm ?_)
    rw [hC.1.rp hm] at q
    have c5 := hC.2.1 hl m hm
    rw [hC.1.rp hm] at c5
    exact end_ok (fun z => q (Or.inl z)) c5
theorem wdSig_G {vs : Nat → List Prg} (now : Int32) {W : Wld} {t m : Nat} {v o : Int32} (hl : shL (W t) ≠ -1) (hm : m < shN (W t)) : WdG vs true W (wdSig vs now W t m v o).2 := by
  unfold wdSig
  by_cases q : wkP (flW (shF (W t) m)) = 4 ∨ hasSig (flE (shF (W t) m)) o = true
  · rw [if_pos q]; exact WdG.rf vs true W
  · rw [if_neg q]
    refine WdG.one (fun C hC => bring_S now hC hl hm ?_)
    rw [hC.1.rp hm] at q
    have c5 := hC.2.1 hl m hm
    rw [hC.1.rp hm] at c5
    exact signal_ok (fun z => q (Or.inl z)) c5
theorem shOrg_some {h : Shd} {o : Int32} {m : Nat} (e : shOrg h o = some m) : m < shN h ∧ flO (shF h m) = o := by
  unfold shOrg at e
  have q := List.find?_some e
  exact ⟨List.mem_range.mp (List.mem_of_find?_eq_some e), of_decide_eq_true q⟩
theorem wdSend_G {vs : Nat → List Prg} (hv : vsOK vs) (now : Int32) {W : Wld} {s n k : Nat} (hl : shL (W s) ≠ -1) (hn : n < shN (W s)) (hp : (evAt (flE (shF (W s) n)) k).1 = 6 → (evAt (flE (shF (W s) n)) k).2.1.toNatClampNeg < 8) : WdG vs true W (wdSend vs now W s n k).2 := by
  unfold wdSend
  simp only []
  by_cases c6 : (evAt (flE (shF (W s) n)) k).1 = 6
  · rw [if_pos c6]
    unfold wdBear
    simp only []
    split
    · exact WdG.rf vs true W
    · next hlt =>
      split
      · exact WdG.rf vs true W
      · split
        · next c => exact WdG.one (fun C hC => begin_S hv now hC hlt c.1 (hp c6) c.2 _ _)
        · exact wdTell_G now hl hn
  · rw [if_neg c6]
    split
    · split
      · exact WdG.rf vs true W
      · next hlt =>
        split
        · exact WdG.rf vs true W
        · next m hm => exact wdSig_G now hlt (shOrg_some hm).1
    · split
      · exact WdG.rf vs true W
      · next hlt =>
        split
        · next hm =>
          split
          · exact wdSig_G now hlt hm
          · exact wdTell_G now hlt hm
        · exact WdG.rf vs true W
/-! WHAT EVENTS CAN BE: children, signals sent -/
theorem cntK_snoc (k : Nat) (es : List Evt) (e : Evt) : cntK k (es ++ [e]) = cntK k es + if e.1 = k then 1 else 0 := by
  unfold cntK
  rw [List.filter_append, List.length_append]
  congr 1
  by_cases c : e.1 = k <;> simp [c]
theorem wkC_walk (P : Prg) (es : List Evt) (W : Wkr) : wkC (wkWalk P es W) = wkC W := by
  unfold wkWalk
  simp only []
  repeat' split
  all_goals rfl
theorem wkC_run (P : Prg) (o now : Int32) (es : List Evt) : ∀ (n : Nat) (W : Wkr), wkC (wkRun P o now es n W).2 = wkC W
  | 0, W => rfl
  | n + 1, W => by
    unfold wkRun
    split
    · rfl
    · cases hw : wkWish P o now W with
      | some k => rfl
      | none => exact (wkC_run P o now es n _).trans (wkC_walk P es W)
theorem wkC_take (P : Prg) (W : Wkr) (e : Evt) : wkC (wkTake P W e) = wkC W + if e.1 = 6 then 1 else 0 := by
  unfold wkTake
  by_cases c : e.1 = 6
  · rw [if_neg (by omega), if_neg (by omega), if_pos c, if_pos c]; rfl
  · rw [if_neg c]
    simp only [if_neg c]
    repeat' split
    all_goals rfl
theorem wkC_rp (P : Prg) : ∀ (es : List Evt), 0 < es.length → (evAt es 0).1 = 0 → wkC (rpA P es) = cntK 6 es ∧ wkC (rpR P es) = cntK 6 es := fun es => by
  generalize hn : es.length = n
  induction n generalizing es with
  | zero => intro h; exact absurd h (by decide)
  | succ n ih =>
    intro _ h0
    have key : wkC (rpA P es) = cntK 6 es := by
      rcases Nat.eq_zero_or_pos n with z | z
      · obtain ⟨e, rfl⟩ : ∃ e, es = [e] := by
          cases es with
          | nil => cases hn
          | cons e r =>
            refine ⟨e, ?_⟩
            have : r.length = 0 := by rw [List.length_cons] at hn; omega
            rw [List.length_eq_zero_iff.mp this]
        have h0 : e.1 = 0 := h0
        rw [rpA_one]
        unfold cntK
        simp [h0]
      · obtain ⟨A, e, rfl⟩ : ∃ A e, es = A ++ [e] := ⟨es.dropLast, es.getLast (by intro q; rw [q] at hn; cases hn), (List.dropLast_concat_getLast _).symm⟩
        have hl : A.length = n := by rw [List.length_append] at hn; simpa using hn
        rw [evAt_snoc (by omega)] at h0
        rw [rpA_snoc P e (by omega), wkC_take, cntK_snoc, (ih A hl (by omega) h0).2]
    exact ⟨key, (wkC_run P _ _ _ 201 _).trans key⟩
def prgDg (P : Prg) : Prop := ∀ j, j < P.length → (stpAt P j).1 = 67 → ∃ d, d < 8 ∧ (stpAt P j).2.2.1 = nI d
theorem evOK_wish2 {P : Prg} {es : List Evt} {e : Evt} (h : evOK P es e) (hk : e.1 = 1 ∨ e.1 = 4 ∨ e.1 = 6 ∨ e.1 = 9) : ∃ now, wkWish P (rpO es) now (rpR P es) = some (e.1, e.2.1, e.2.2.1) := by
  obtain ⟨h4, -, -, h⟩ := h
  rcases h with h | ⟨h, -⟩ | ⟨-, h⟩ | ⟨-, h⟩ | ⟨-, h⟩ | ⟨-, h⟩
  · omega
  · omega
  · exact h
  · omega
  · omega
  · omega
theorem kid_digit {P : Prg} {es : List Evt} (hP : prgDg P) (hs : hsOK P es) {k : Nat} (hk : k < es.length) (h6 : (evAt es k).1 = 6) : ∃ d, d < 8 ∧ (evAt es k).2.1 = nI d := by
  have k1 : 1 ≤ k := by
    rcases Nat.eq_zero_or_pos k with z | z
    · rw [z, hs.2.2.1] at h6; cases h6
    · exact z
  obtain ⟨now, hw⟩ := evOK_wish2 (hs.2.2.2 k k1 hk) (by omega)
  obtain ⟨w1, w2⟩ := wkWish_lt hw (by omega)
  have c67 : (stpAt P (wkS (rpR P (es.take k)))).1 = 67 := by
    rcases w2 with ⟨w, -⟩ | ⟨w, -⟩ | ⟨w, c⟩ | ⟨w, -⟩
    · omega
    · omega
    · exact c
    · omega
  obtain ⟨d, d1, d2⟩ := hP _ w1 c67
  refine ⟨d, d1, ?_⟩
  rw [h6] at hw
  unfold wkWish at hw
  simp only [] at hw
  rw [if_neg (by omega)] at hw
  split at hw
  · have := congrArg (fun z => z.1) (Option.some.inj hw); cases this
  · rw [c67, if_neg (by decide), if_neg (by decide), d2] at hw
    exact (congrArg (fun z => z.2.1) (Option.some.inj hw)).symm
theorem sent_ok {P : Prg} {es : List Evt} (hs : hsOK P es) {k : Nat} (hk : k < es.length) (h9 : (evAt es k).1 = 9) : ((evAt es k).2.1 = -1 ∧ rpO es < 0) ∨ ∃ c, c < cntK 6 (es.take k) ∧ (evAt es k).2.1 = nI c := by
  have k1 : 1 ≤ k := by
    rcases Nat.eq_zero_or_pos k with z | z
    · rw [z, hs.2.2.1] at h9; cases h9
    · exact z
  obtain ⟨now, hw⟩ := evOK_wish2 (hs.2.2.2 k k1 hk) (by omega)
  obtain ⟨w1, w2⟩ := wkWish_lt hw (by omega)
  have c83 : (stpAt P (wkS (rpR P (es.take k)))).1 = 83 := by
    rcases w2 with ⟨w, -⟩ | ⟨w, -⟩ | ⟨w, -⟩ | ⟨w, c⟩
    · omega
    · omega
    · omega
    · exact c
  have eC := (wkC_rp P (es.take k) (by rw [List.length_take]; omega) (by
    have : evAt (es.take k) 0 = evAt es 0 := by unfold evAt; rw [List.getD_eq_getElem?_getD, List.getD_eq_getElem?_getD, List.getElem?_take_of_lt (by omega)]
    rw [this]; exact hs.2.2.1)).2
  have eO := rpO_take (es := es) k1
  have hl := hs.2.1
  generalize rpR P (es.take k) = W at *
  rw [h9, eO] at hw
  unfold wkWish at hw
  simp only [] at hw
  rw [if_neg (by omega)] at hw
  split at hw
  · have := congrArg (fun z => z.1) (Option.some.inj hw); cases this
  · rw [c83, if_neg (by decide), if_neg (by decide), if_neg (by decide)] at hw
    split at hw
    · next hk2 =>
      have ex : valOf (wkV W) (stpAt P (wkS W)).2.2.2.1 = (evAt es k).2.1 := congrArg (fun z => z.2.1) (Option.some.inj hw)
      rw [ex] at hk2
      unfold hasKin at hk2
      by_cases c : (evAt es k).2.1 = -1
      · rw [if_pos c] at hk2
        exact Or.inl ⟨c, of_decide_eq_true hk2⟩
      · rw [if_neg c] at hk2
        rw [Bool.and_eq_true] at hk2
        obtain ⟨g1, g2⟩ := hk2
        have g1 := of_decide_eq_true g1
        have g2 := of_decide_eq_true g2
        obtain ⟨v, v1, v2⟩ := zi_of (Int32.not_lt.mpr g1)
        have cl : cntK 6 (es.take k) ≤ 60 := by
          have h1 : cntK 6 (es.take k) ≤ (es.take k).length := List.length_filter_le _ _
          rw [List.length_take] at h1; omega
        rw [v2, eC] at g2
        exact Or.inr ⟨v, (zi_lt v1 (by omega)).mp g2, v2⟩
    · cases hw
/-! MESSAGES STAY until their GONE -/
theorem bkO_keep {b : Bk} {r : Rec} (h : rcK r ≠ 14) {m : Nat × Nat × Nat} (hm : m ∈ bkO b) : m ∈ bkO (bkStep b r) := by
  unfold bkStep
  split
  · exact hm
  · split
    · exact hm
    · show m ∈ (if bkMsg (bkF b (rcN r)) (rcK r) = true then bkO b ++ [(bkP b, rcN r, (bkF b (rcN r)).length)] else bkO b)
      split
      · exact List.mem_append_left _ hm
      · exact hm
theorem noG_keep {C E : List Rec} (h : noG C E) {m : Nat × Nat × Nat} (hm : m ∈ bkO (lgB C)) : m ∈ bkO (lgB E) := by
  obtain ⟨X, rfl, hX⟩ := h
  induction X generalizing C with
  | nil => rw [List.append_nil]; exact hm
  | cons r X ih =>
    have e : C ++ r :: X = (C ++ [r]) ++ X := by simp
    rw [e]
    refine ih ?_ (fun q hq => hX q (List.mem_cons_of_mem _ hq))
    rw [lgB_snoc]
    exact bkO_keep (hX r List.mem_cons_self) hm
/-- those with lower places than a log has records were there -/
theorem bkO_old {C E : List Rec} (h : C <+: E) {m : Nat × Nat × Nat} (hm : m ∈ bkO (lgB E)) (hp : m.1 < C.length) : m ∈ bkO (lgB C) := by
  obtain ⟨X, rfl⟩ := h
  generalize hn : X.length = n
  induction n generalizing X with
  | zero =>
    rw [List.length_eq_zero_iff] at hn
    rw [hn, List.append_nil] at hm; exact hm
  | succ n ih =>
    rcases lg_cases X with e | ⟨A, r, e⟩
    · rw [e] at hn; cases hn
    · rw [e] at hm hn
      rw [← List.append_assoc, lgB_snoc] at hm
      refine ih A ?_ (by rw [List.length_append] at hn; simpa using hn)
      unfold bkStep at hm
      split at hm
      · exact hm
      · split at hm
        · exact (List.mem_filter.mp hm).1
        · split at hm
          · exact hm
          · have hm : m ∈ (if bkMsg (bkF (lgB (C ++ A)) (rcN r)) (rcK r) = true then bkO (lgB (C ++ A)) ++ [(bkP (lgB (C ++ A)), rcN r, (bkF (lgB (C ++ A)) (rcN r)).length)] else bkO (lgB (C ++ A))) := hm
            split at hm
            · rcases List.mem_append.mp hm with hm | hm
              · exact hm
              · rw [List.mem_singleton] at hm
                rw [hm, lgB_place, List.length_append] at hp
                have hp : C.length + A.length < C.length := hp
                omega
            · exact hm
def vsDg (vs : Nat → List Prg) : Prop := ∀ p, p < 8 → ∀ P ∈ vs p, prgDg P
theorem prgOf_mem {vs : Nat → List Prg} {a : Int32} {P : Prg} (h : prgOf vs a = some P) : P ∈ vs (a.toNatClampNeg % 8) := List.mem_of_getElem? h
/-- a message of a shard at rest -/
theorem msg_ok {vs : Nat → List Prg} (hd : vsDg vs) {h : Shd} {C : List Rec} (hI : ShI vs h C) {m : Nat × Nat × Nat} (hm : m ∈ shO h) : m.2.1 < shN h ∧ m.2.2 < (flE (shF h m.2.1)).length ∧ m.1 < C.length ∧ bkMsg (flE (shF h m.2.1)) (evAt (flE (shF h m.2.1)) m.2.2).1 = true ∧ ((evAt (flE (shF h m.2.1)) m.2.2).1 = 6 → ∃ d, d < 8 ∧ (evAt (flE (shF h m.2.1)) m.2.2).2.1 = nI d) := by
  obtain ⟨s1, s2, s3⟩ := hI.2.1
  rw [s2] at hm
  obtain ⟨g1, g2, g3, g4⟩ := (bkG_log hI.v).2.2.1 m hm
  have hz := s3 _ g2
  obtain ⟨-, -, -, l4, -⟩ := hI.len (by omega : m.2.1 < shN h)
  rw [← hz.1] at g3 g4
  refine ⟨by omega, g3, by rw [← lgB_place]; exact g1, g4, fun h6 => kid_digit ?_ l4 g3 h6⟩
  exact hd _ (by omega) _ (prgOf_mem hz.2.1)
theorem wdMsgs_G {vs : Nat → List Prg} (hv : vsOK vs) (hd : vsDg vs) (now : Int32) {s : Nat} (hs : s < 4) {K : Nat} (hK : K ≤ 10000) : ∀ (ps : List Nat) (W : Wld), WdS vs K W → WdG vs false W (wdMsgs vs now s ps W)
  | [], W, _ => WdG.rf vs false W
  | p :: ps, W, hW => by
    unfold wdMsgs
    by_cases hl : shL (W s) = -1
    · rw [if_pos hl]; exact WdG.rf vs false W
    · rw [if_neg hl]
      cases hf : (shO (W s)).find? (fun m => decide (m.1 = p)) with
      | none => exact wdMsgs_G hv hd now hs hK ps W hW
      | some m =>
        have hm := List.mem_of_find?_eq_some hf
        have em : m.1 = p := by have q := List.find?_some hf; exact of_decide_eq_true q
        obtain ⟨C, c1, c2⟩ := hW s hs
        obtain ⟨m1, m2, m3, m4, m5⟩ := msg_ok hd c1.1 hm
        have G := wdSend_G hv now (W := W) (s := s) (n := m.2.1) (k := m.2.2) hl m1 (fun q => by
          obtain ⟨d, d1, d2⟩ := m5 q
          rw [d2, zi_nat (by omega)]; exact d1)
        obtain ⟨E, e1, e2⟩ := G s hs C c1
        have hU := G.on hW
        show WdG vs false W (if (wdSend vs now W s m.2.1 m.2.2).1 = true ∧ shL ((wdSend vs now W s m.2.1 m.2.2).2 s) ≠ -1 then wdMsgs vs now s ps (upf (wdSend vs now W s m.2.1 m.2.2).2 s (stl vs now (shForget ((wdSend vs now W s m.2.1 m.2.2).2 s) p))) else wdMsgs vs now s ps (wdSend vs now W s m.2.1 m.2.2).2)
        split
        · next c =>
          have still : m ∈ shO ((wdSend vs now W s m.2.1 m.2.2).2 s) := by
            rw [e1.1.2.1.2.1]
            have := (e2.2.2.2.2.2.1 rfl (works_upX c1.1.1 hl)).1
            refine noG_keep this ?_
            rw [← c1.1.2.1.2.1]; exact hm
          have hq := hU.q hs
          have G2 : WdG vs false (wdSend vs now W s m.2.1 m.2.2).2 (upf (wdSend vs now W s m.2.1 m.2.2).2 s (stl vs now (shForget ((wdSend vs now W s m.2.1 m.2.2).2 s) p))) := WdG.one (fun D hD => forget_S now hD c.2 ⟨m, still, em⟩ (by omega))
          exact (G.less.tr G2).tr (wdMsgs_G hv hd now hs hK ps _ (G2.on hU))
        · exact G.less.tr (wdMsgs_G hv hd now hs hK ps _ hU)
theorem wdTimes_G {vs : Nat → List Prg} (now : Int32) (W : Wld) : WdG vs true W (wdTimes vs now W) := fun s hs C hC => by
  rw [show wdTimes vs now W s = shTime vs now (W s) from if_pos hs]
  exact shTime_S now hC
theorem wdAll_G {vs : Nat → List Prg} (hv : vsOK vs) (hd : vsDg vs) (now : Int32) {s : Nat} (hs : s < 4) {K : Nat} (hK : K ≤ 10000) {W : Wld} (hW : WdS vs K W) : WdG vs false W (wdAll vs now s W) := wdMsgs_G hv hd now hs hK _ W hW
theorem wdTick_G {vs : Nat → List Prg} (hv : vsOK vs) (hd : vsDg vs) (now : Int32) {K : Nat} (hK : K ≤ 10000) {W : Wld} (hW : WdS vs K W) : WdG vs false W (wdTick vs now W) := by
  have g0 : WdG vs false W (wdTimes vs now W) := (wdTimes_G now W).less
  have g1 := g0.tr (wdAll_G hv hd now (s := 0) (by decide) hK (g0.on hW))
  have g2 := g1.tr (wdAll_G hv hd now (s := 1) (by decide) hK (g1.on hW))
  have g3 := g2.tr (wdAll_G hv hd now (s := 2) (by decide) hK (g2.on hW))
  exact g3.tr (wdAll_G hv hd now (s := 3) (by decide) hK (g3.on hW))
/-! RECORDS TRIED ONLY GROW; a tick in which none is tried changes nothing -/
theorem shQ_lose (h : Shd) : shQ (shLose h) = shQ h := rfl
theorem shQ_commit (h : Shd) (k n : Nat) (a b c : Int32) : shQ (shCommit h k n a b c).2 = shQ h + 1 := by
  unfold shCommit
  simp only []
  split
  · rfl
  · split
    · rfl
    · split <;> rfl
theorem shQ_happen (now : Int32) (h : Shd) (n k : Nat) (a b o : Int32) : shQ (shHappen now h n k a b o).2 = shQ h + 1 := by
  rw [shHappen_eq now h n k a b o rfl rfl]
  split
  · exact shQ_commit _ _ _ _ _ _
  · show shQ (if _ then shSetO _ _ else shSetF _ _ _) = _
    split
    · exact shQ_commit _ _ _ _ _ _
    · exact shQ_commit _ _ _ _ _ _
theorem shQ_goL (now : Int32) (n : Nat) : ∀ (i : Nat) (w : Option (Nat × Int32 × Int32)) (h : Shd), shQ h ≤ shQ (shGoL now n i w h)
  | 0, w, h => by cases w <;> exact Nat.le_refl _
  | i + 1, none, h => Nat.le_refl _
  | i + 1, some (k, a, b), h => by
    show shQ h ≤ shQ (if (shHappen now h n k a b 0).1 = false then (shHappen now h n k a b 0).2 else shGoL now n i _ (shSetF (shHappen now h n k a b 0).2 n _))
    have e := shQ_happen now h n k a b 0
    split
    · omega
    · refine Nat.le_trans ?_ (shQ_goL now n i _ _)
      show shQ h ≤ shQ (shHappen now h n k a b 0).2
      omega
theorem shQ_go (now : Int32) (h : Shd) (n : Nat) : shQ h ≤ shQ (shGo now h n) := shQ_goL now n 60 _ (shSetF h n _)
theorem shQ_bring (now : Int32) (h : Shd) (n k : Nat) (a b o : Int32) : shQ h + 1 ≤ shQ (shBring now h n k a b o).2 := by
  show shQ h + 1 ≤ shQ (if (shHappen now h n k a b o).1 = false then (false, (shHappen now h n k a b o).2) else (true, shGo now (shHappen now h n k a b o).2 n)).2
  have e := shQ_happen now h n k a b o
  split
  · exact Nat.le_of_eq e.symm
  · exact Nat.le_trans (Nat.le_of_eq e.symm) (shQ_go now _ n)
theorem shQ_open (vs : Nat → List Prg) (h : Shd) (n : Nat) (a x o : Int32) : shQ (shOpen vs h n a x o) = shQ h := by
  unfold shOpen
  simp only []
  split <;> rfl
theorem shQ_begin (vs : Nat → List Prg) (now : Int32) (h : Shd) (p : Nat) (x o : Int32) : shQ h + 1 ≤ shQ (shBegin vs now h p x o).2 := by
  show shQ h + 1 ≤ shQ (if (shCommit h 0 (shN h) (bgA vs p) x o).1 = false then (false, (shCommit h 0 (shN h) (bgA vs p) x o).2) else (true, shGo now (shOpen vs (shCommit h 0 (shN h) (bgA vs p) x o).2 (shN h) (bgA vs p) x o) (shN h))).2
  have e := shQ_commit h 0 (shN h) (bgA vs p) x o
  split
  · exact Nat.le_of_eq e.symm
  · refine Nat.le_trans (Nat.le_of_eq e.symm) (Nat.le_trans (Nat.le_of_eq (shQ_open vs _ _ _ _ _).symm) (shQ_go now _ _))
theorem shQ_fail (now : Int32) (h : Shd) (n : Nat) : shQ h + 1 ≤ shQ (shFail now h n).2 := by
  unfold shFail
  simp only []
  split
  · exact shQ_bring now h n 3 (-1) 0 0
  · split
    · exact Nat.le_of_eq (shQ_commit _ _ _ _ _ _).symm
    · exact Nat.le_of_eq (shQ_commit _ _ _ _ _ _).symm
theorem shQ_forget (h : Shd) (p : Nat) : shQ (shForget h p) = shQ h + 1 := by
  unfold shForget
  simp only []
  split <;> exact shQ_commit _ _ _ _ _ _
theorem shQ_elect (h : Shd) : shQ (shElect h).2 = shQ h + 1 := by
  unfold shElect
  simp only []
  rw [shQ_commit]
  split <;> rfl
theorem shQ_all (now : Int32) : ∀ (k n : Nat) (h : Shd), shQ h ≤ shQ (shAll now k n h)
  | 0, n, h => Nat.le_refl _
  | k + 1, n, h => by
    show shQ h ≤ shQ (if shWorks h = false then h else shAll now k (n + 1) (shGo now h n))
    split
    · exact Nat.le_refl _
    · exact Nat.le_trans (shQ_go now h n) (shQ_all now k (n + 1) _)
theorem shQ_elect1 (vs : Nat → List Prg) (now : Int32) (h : Shd) : shQ h ≤ shQ (shElect1 vs now h) := by
  show shQ h ≤ shQ (if (shElect h).1 = false then (shElect h).2 else shAll now (shN (shBuild vs now (shElect h).2)) 0 (shBuild vs now (shElect h).2))
  have e := shQ_elect h
  split
  · omega
  · refine Nat.le_trans ?_ (shQ_all now _ 0 _)
    rw [(shBuild_same vs now (shElect h).2).2.2.2.2]; omega
theorem shQ_settle (vs : Nat → List Prg) (now : Int32) : ∀ (i : Nat) (h : Shd), shQ h ≤ shQ (shSettle vs now i h)
  | 0, h => Nat.le_refl _
  | i + 1, h => by
    show shQ h ≤ shQ (if shWorks h = false ∧ shMost h = true then shSettle vs now i (shElect1 vs now h) else h)
    split
    · exact Nat.le_trans (shQ_elect1 vs now h) (shQ_settle vs now i _)
    · exact Nat.le_refl _
theorem shQ_stl (vs : Nat → List Prg) (now : Int32) (h : Shd) : shQ h ≤ shQ (stl vs now h) := shQ_settle vs now 6 h
theorem shFire_q (vs : Nat → List Prg) (now : Int32) : ∀ (k n : Nat) (h : Shd), shQ h ≤ shQ (shFire vs now k n h) ∧ (shQ (shFire vs now k n h) = shQ h → shFire vs now k n h = h ∧ (shWorks h = true → ∀ m, n ≤ m → m < n + k → m < shN h → ¬ dueF now h m))
  | 0, n, h => ⟨Nat.le_refl _, fun _ => ⟨rfl, fun _ m h1 h2 => by omega⟩⟩
  | k + 1, n, h => by
    show shQ h ≤ shQ (if n < shN h ∧ shWorks h = true then (if dueF now h n then shFire vs now k (n + 1) (stl vs now (shBring now h n 5 now 0 0).2) else shFire vs now k (n + 1) h) else h) ∧ (shQ (if n < shN h ∧ shWorks h = true then (if dueF now h n then shFire vs now k (n + 1) (stl vs now (shBring now h n 5 now 0 0).2) else shFire vs now k (n + 1) h) else h) = shQ h → (if n < shN h ∧ shWorks h = true then (if dueF now h n then shFire vs now k (n + 1) (stl vs now (shBring now h n 5 now 0 0).2) else shFire vs now k (n + 1) h) else h) = h ∧ (shWorks h = true → ∀ m, n ≤ m → m < n + (k + 1) → m < shN h → ¬ dueF now h m))
    by_cases c : n < shN h ∧ shWorks h = true
    · rw [if_pos c]
      by_cases d : dueF now h n
      · rw [if_pos d]
        have a := (shFire_q vs now k (n + 1) (stl vs now (shBring now h n 5 now 0 0).2)).1
        have b := shQ_stl vs now (shBring now h n 5 now 0 0).2
        have e := shQ_bring now h n 5 now 0 0
        exact ⟨by omega, fun q => by omega⟩
      · rw [if_neg d]
        obtain ⟨a, b⟩ := shFire_q vs now k (n + 1) h
        refine ⟨a, fun q => ⟨(b q).1, fun w m h1 h2 h3 => ?_⟩⟩
        by_cases e : m = n
        · rw [e]; exact d
        · exact (b q).2 w m (by omega) (by omega) h3
    · rw [if_neg c]
      exact ⟨Nat.le_refl _, fun _ => ⟨rfl, fun w m h1 h2 h3 => absurd ⟨by omega, w⟩ c⟩⟩
theorem shLapse_q (vs : Nat → List Prg) (now : Int32) : ∀ (k n : Nat) (h : Shd), shQ h ≤ shQ (shLapse vs now k n h) ∧ (shQ (shLapse vs now k n h) = shQ h → shLapse vs now k n h = h ∧ (shWorks h = true → ∀ m, n ≤ m → m < n + k → m < shN h → ¬ dueL now h m))
  | 0, n, h => ⟨Nat.le_refl _, fun _ => ⟨rfl, fun _ m h1 h2 => by omega⟩⟩
  | k + 1, n, h => by
    show shQ h ≤ shQ (if n < shN h ∧ shWorks h = true then (if dueL now h n then shLapse vs now k (n + 1) (stl vs now (shFail now h n).2) else shLapse vs now k (n + 1) h) else h) ∧ (shQ (if n < shN h ∧ shWorks h = true then (if dueL now h n then shLapse vs now k (n + 1) (stl vs now (shFail now h n).2) else shLapse vs now k (n + 1) h) else h) = shQ h → (if n < shN h ∧ shWorks h = true then (if dueL now h n then shLapse vs now k (n + 1) (stl vs now (shFail now h n).2) else shLapse vs now k (n + 1) h) else h) = h ∧ (shWorks h = true → ∀ m, n ≤ m → m < n + (k + 1) → m < shN h → ¬ dueL now h m))
    by_cases c : n < shN h ∧ shWorks h = true
    · rw [if_pos c]
      by_cases d : dueL now h n
      · rw [if_pos d]
        have a := (shLapse_q vs now k (n + 1) (stl vs now (shFail now h n).2)).1
        have b := shQ_stl vs now (shFail now h n).2
        have e := shQ_fail now h n
        exact ⟨by omega, fun q => by omega⟩
      · rw [if_neg d]
        obtain ⟨a, b⟩ := shLapse_q vs now k (n + 1) h
        refine ⟨a, fun q => ⟨(b q).1, fun w m h1 h2 h3 => ?_⟩⟩
        by_cases e : m = n
        · rw [e]; exact d
        · exact (b q).2 w m (by omega) (by omega) h3
    · rw [if_neg c]
      exact ⟨Nat.le_refl _, fun _ => ⟨rfl, fun w m h1 h2 h3 => absurd ⟨by omega, w⟩ c⟩⟩
/-- nothing is due in a shard -/
def still (now : Int32) (h : Shd) : Prop := shL h ≠ -1 → ∀ m, m < shN h → ¬ dueF now h m ∧ ¬ dueL now h m
theorem shFire_off (vs : Nat → List Prg) (now : Int32) : ∀ (k n : Nat) (h : Shd), still now h → shFire vs now k n h = h
  | 0, n, h, _ => rfl
  | k + 1, n, h, q => by
    show (if n < shN h ∧ shWorks h = true then (if dueF now h n then _ else shFire vs now k (n + 1) h) else h) = h
    by_cases c : n < shN h ∧ shWorks h = true
    · rw [if_pos c, if_neg (q ((works_iff h).mp c.2) n c.1).1]
      exact shFire_off vs now k (n + 1) h q
    · rw [if_neg c]
theorem shLapse_off (vs : Nat → List Prg) (now : Int32) : ∀ (k n : Nat) (h : Shd), still now h → shLapse vs now k n h = h
  | 0, n, h, _ => rfl
  | k + 1, n, h, q => by
    show (if n < shN h ∧ shWorks h = true then (if dueL now h n then _ else shLapse vs now k (n + 1) h) else h) = h
    by_cases c : n < shN h ∧ shWorks h = true
    · rw [if_pos c, if_neg (q ((works_iff h).mp c.2) n c.1).2]
      exact shLapse_off vs now k (n + 1) h q
    · rw [if_neg c]
theorem shTime_off (vs : Nat → List Prg) (now : Int32) {h : Shd} (q : still now h) : shTime vs now h = h := by
  unfold shTime
  rw [shFire_off vs now 17 0 h q, shLapse_off vs now 17 0 h q]
theorem shTime_q (vs : Nat → List Prg) (now : Int32) (h : Shd) : shQ h ≤ shQ (shTime vs now h) ∧ (shN h ≤ 16 → shQ (shTime vs now h) = shQ h → shTime vs now h = h ∧ still now h) := by
  unfold shTime
  obtain ⟨a1, a2⟩ := shFire_q vs now 17 0 h
  obtain ⟨b1, b2⟩ := shLapse_q vs now 17 0 (shFire vs now 17 0 h)
  refine ⟨Nat.le_trans a1 b1, fun hN q => ?_⟩
  obtain ⟨a3, a4⟩ := a2 (by omega)
  rw [a3] at b2 q ⊢
  obtain ⟨b3, b4⟩ := b2 q
  exact ⟨b3, fun w m hm => ⟨a4 ((works_iff h).mpr w) m (by omega) (by omega) hm, b4 ((works_iff h).mpr w) m (by omega) (by omega) hm⟩⟩
/-- no shard has tried a record -/
def sameQ (W U : Wld) : Prop := ∀ s, s < 4 → shQ (U s) = shQ (W s)
def leQ (W U : Wld) : Prop := ∀ s, s < 4 → shQ (W s) ≤ shQ (U s)
theorem leQ.rf (W : Wld) : leQ W W := fun _ _ => Nat.le_refl _
theorem leQ.tr {W U X : Wld} (a : leQ W U) (b : leQ U X) : leQ W X := fun s hs => Nat.le_trans (a s hs) (b s hs)
theorem sameQ.mid {W U X : Wld} (a : leQ W U) (b : leQ U X) (q : sameQ W X) : sameQ W U ∧ sameQ U X := ⟨fun s hs => by have := a s hs; have := b s hs; have := q s hs; omega, fun s hs => by have := a s hs; have := b s hs; have := q s hs; omega⟩
theorem leQ_up {W : Wld} {t : Nat} {u : Shd} (h : shQ (W t) ≤ shQ u) : leQ W (upf W t u) := fun s _ => by
  by_cases c : s = t
  · rw [show upf W t u s = u from if_pos c, c]; exact h
  · rw [show upf W t u s = W s from if_neg c]; exact Nat.le_refl _
theorem not_same {W : Wld} {t : Nat} {u : Shd} (ht : t < 4) (h : shQ (W t) + 1 ≤ shQ u) (q : sameQ W (upf W t u)) : False := by
  have := q t ht
  rw [show upf W t u t = u from if_pos rfl] at this
  omega
/-- what is sent, if no record is tried, is sent so at any time -/
def qtS (vs : Nat → List Prg) (W : Wld) (f : Int32 → Bool × Wld) : Prop := ∀ now, leQ W (f now).2 ∧ (sameQ W (f now).2 → (f now).2 = W ∧ ∀ later, f later = f now)
theorem qtS_const (vs : Nat → List Prg) (W : Wld) (b : Bool) : qtS vs W (fun _ => (b, W)) := fun _ => ⟨leQ.rf W, fun _ => ⟨rfl, fun _ => rfl⟩⟩
theorem qtS_ite {vs : Nat → List Prg} {W : Wld} {c : Prop} [Decidable c] {f g : Int32 → Bool × Wld} (hf : c → qtS vs W f) (hg : ¬ c → qtS vs W g) : qtS vs W (fun now => if c then f now else g now) := by
  by_cases h : c
  · have : (fun now => if c then f now else g now) = f := by funext now; rw [if_pos h]
    rw [this]; exact hf h
  · have : (fun now => if c then f now else g now) = g := by funext now; rw [if_neg h]
    rw [this]; exact hg h
theorem qtS_act {vs : Nat → List Prg} {W : Wld} {t : Nat} (ht : t < 4) {b : Int32 → Bool} {u : Int32 → Shd} (h : ∀ now, shQ (W t) + 1 ≤ shQ (u now)) : qtS vs W (fun now => (b now, upf W t (u now))) := fun now => ⟨leQ_up (by have := h now; omega), fun q => (not_same ht (h now) q).elim⟩
theorem wdTell_q {vs : Nat → List Prg} {W : Wld} {t m : Nat} (ht : t < 4) (c v : Int32) : qtS vs W (fun now => wdTell vs now W t m c v) := qtS_ite (fun _ => qtS_const vs W true) (fun _ => qtS_act ht (fun now => Nat.le_trans (shQ_bring now (W t) m 7 c v 0) (shQ_stl vs now _)))
theorem wdSig_q {vs : Nat → List Prg} {W : Wld} {t m : Nat} (ht : t < 4) (v o : Int32) : qtS vs W (fun now => wdSig vs now W t m v o) := qtS_ite (fun _ => qtS_const vs W true) (fun _ => qtS_act ht (fun now => Nat.le_trans (shQ_bring now (W t) m 8 v 0 o) (shQ_stl vs now _)))
theorem wdBear_q {vs : Nat → List Prg} {W : Wld} {s : Nat} (hs : s < 4) (n k : Nat) : qtS vs W (fun now => wdBear vs now W s n k) := by
  unfold wdBear
  simp only []
  exact qtS_ite (fun _ => qtS_const vs W false) (fun _ => qtS_ite (fun _ => qtS_const vs W true) (fun _ => qtS_ite (fun _ => qtS_act (Nat.mod_lt _ (by decide)) (fun now => Nat.le_trans (shQ_begin vs now (W _) _ _ _) (shQ_stl vs now _))) (fun _ => wdTell_q hs _ _)))
theorem wdSend_q {vs : Nat → List Prg} {W : Wld} {s : Nat} (hs : s < 4) (n k : Nat) : qtS vs W (fun now => wdSend vs now W s n k) := by
  unfold wdSend
  simp only []
  refine qtS_ite (fun _ => wdBear_q hs n k) (fun _ => qtS_ite (fun _ => qtS_ite (fun _ => qtS_const vs W false) (fun _ => ?_)) (fun _ => qtS_ite (fun _ => qtS_const vs W false) (fun _ => qtS_ite (fun _ => qtS_ite (fun _ => wdSig_q (Nat.mod_lt _ (by decide)) _ _) (fun _ => wdTell_q (Nat.mod_lt _ (by decide)) _ _)) (fun _ => qtS_const vs W true))))
  cases shOrg (W ((s + kidP (flE (shF (W s) n)) (evAt (flE (shF (W s) n)) k).2.1.toNatClampNeg) % 4)) (orgOf s n (evAt (flE (shF (W s) n)) k).2.1.toNatClampNeg) with
  | none => exact qtS_const vs W true
  | some m => exact wdSig_q (Nat.mod_lt _ (by decide)) _ _
theorem wdMsgs_q {vs : Nat → List Prg} {s : Nat} (hs : s < 4) (now : Int32) : ∀ (ps : List Nat) (W : Wld), leQ W (wdMsgs vs now s ps W) ∧ (sameQ W (wdMsgs vs now s ps W) → wdMsgs vs now s ps W = W ∧ ∀ later, wdMsgs vs later s ps W = W)
  | [], W => ⟨leQ.rf W, fun _ => ⟨rfl, fun _ => rfl⟩⟩
  | p :: ps, W => by
    by_cases hl : shL (W s) = -1
    · have e : ∀ now, wdMsgs vs now s (p :: ps) W = W := fun now => by unfold wdMsgs; rw [if_pos hl]
      rw [e]
      exact ⟨leQ.rf W, fun _ => ⟨rfl, e⟩⟩
    · cases hf : (shO (W s)).find? (fun m => decide (m.1 = p)) with
      | none =>
        have e : ∀ now, wdMsgs vs now s (p :: ps) W = wdMsgs vs now s ps W := fun now => by
          show (if shL (W s) = -1 then W else match (shO (W s)).find? (fun m => decide (m.1 = p)) with | none => _ | some m => _) = _
          rw [if_neg hl, hf]
        rw [e]
        obtain ⟨a, b⟩ := wdMsgs_q hs now ps W
        exact ⟨a, fun q => ⟨(b q).1, fun later => by rw [e]; exact (b q).2 later⟩⟩
      | some m =>
        have e : ∀ now, wdMsgs vs now s (p :: ps) W = if (wdSend vs now W s m.2.1 m.2.2).1 = true ∧ shL ((wdSend vs now W s m.2.1 m.2.2).2 s) ≠ -1 then wdMsgs vs now s ps (upf (wdSend vs now W s m.2.1 m.2.2).2 s (stl vs now (shForget ((wdSend vs now W s m.2.1 m.2.2).2 s) p))) else wdMsgs vs now s ps (wdSend vs now W s m.2.1 m.2.2).2 := fun now => by
          show (if shL (W s) = -1 then W else match (shO (W s)).find? (fun m => decide (m.1 = p)) with | none => _ | some m => _) = _
          rw [if_neg hl, hf]
        obtain ⟨s1, s2⟩ := wdSend_q (vs := vs) (W := W) hs m.2.1 m.2.2 now
        have s1 : leQ W (wdSend vs now W s m.2.1 m.2.2).2 := s1
        have s2 : sameQ W (wdSend vs now W s m.2.1 m.2.2).2 → (wdSend vs now W s m.2.1 m.2.2).2 = W ∧ ∀ later, wdSend vs later W s m.2.1 m.2.2 = wdSend vs now W s m.2.1 m.2.2 := s2
        rw [e]
        by_cases c : (wdSend vs now W s m.2.1 m.2.2).1 = true ∧ shL ((wdSend vs now W s m.2.1 m.2.2).2 s) ≠ -1
        · rw [if_pos c]
          have g : shQ ((wdSend vs now W s m.2.1 m.2.2).2 s) + 1 ≤ shQ (stl vs now (shForget ((wdSend vs now W s m.2.1 m.2.2).2 s) p)) := by
            have := shQ_forget ((wdSend vs now W s m.2.1 m.2.2).2 s) p
            have := shQ_stl vs now (shForget ((wdSend vs now W s m.2.1 m.2.2).2 s) p)
            omega
          have l1 : leQ (wdSend vs now W s m.2.1 m.2.2).2 (upf (wdSend vs now W s m.2.1 m.2.2).2 s (stl vs now (shForget ((wdSend vs now W s m.2.1 m.2.2).2 s) p))) := leQ_up (by omega)
          have l2 := (wdMsgs_q (vs := vs) hs now ps (upf (wdSend vs now W s m.2.1 m.2.2).2 s (stl vs now (shForget ((wdSend vs now W s m.2.1 m.2.2).2 s) p)))).1
          refine ⟨(s1.tr l1).tr l2, fun q => ?_⟩
          have q1 := (sameQ.mid s1 (l1.tr l2) q).2
          have q2 := (sameQ.mid l1 l2 q1).1
          exact (not_same hs g q2).elim
        · rw [if_neg c]
          obtain ⟨a, b⟩ := wdMsgs_q hs now ps (wdSend vs now W s m.2.1 m.2.2).2
          refine ⟨s1.tr a, fun q => ?_⟩
          obtain ⟨q1, q2⟩ := sameQ.mid s1 a q
          obtain ⟨s3, s4⟩ := s2 q1
          obtain ⟨b1, b2⟩ := b q2
          refine ⟨b1.trans s3, fun later => ?_⟩
          rw [e, s4 later, if_neg c, b2 later, s3]
theorem wdAll_q {vs : Nat → List Prg} {s : Nat} (hs : s < 4) (now : Int32) (W : Wld) : leQ W (wdAll vs now s W) ∧ (sameQ W (wdAll vs now s W) → wdAll vs now s W = W ∧ ∀ later, wdAll vs later s W = W) := wdMsgs_q hs now _ W
theorem wdTimes_q (vs : Nat → List Prg) (now : Int32) (W : Wld) : leQ W (wdTimes vs now W) ∧ ((∀ s, s < 4 → shN (W s) ≤ 16) → sameQ W (wdTimes vs now W) → wdTimes vs now W = W) := by
  refine ⟨fun s hs => ?_, fun hN q => ?_⟩
  · rw [show wdTimes vs now W s = shTime vs now (W s) from if_pos hs]
    exact (shTime_q vs now (W s)).1
  · funext s
    by_cases hs : s < 4
    · have := q s hs
      rw [show wdTimes vs now W s = shTime vs now (W s) from if_pos hs] at this ⊢
      exact ((shTime_q vs now (W s)).2 (hN s hs) this).1
    · exact if_neg hs
theorem wdTimes_off (vs : Nat → List Prg) (now : Int32) {W : Wld} (h : ∀ s, s < 4 → still now (W s)) : wdTimes vs now W = W := by
  funext s
  by_cases hs : s < 4
  · rw [show wdTimes vs now W s = shTime vs now (W s) from if_pos hs]
    exact shTime_off vs now (h s hs)
  · exact if_neg hs
theorem wdTick_quiet {vs : Nat → List Prg} {now : Int32} {W : Wld} (hN : ∀ s, s < 4 → shN (W s) ≤ 16) (q : sameQ W (wdTick vs now W)) : wdTick vs now W = W ∧ (∀ s, s < 4 → still now (W s)) ∧ ∀ later, (∀ s, s < 4 → still later (W s)) → wdTick vs later W = W := by
  have l0 := (wdTimes_q vs now W).1
  have l1 := (wdAll_q (vs := vs) (s := 0) (by decide) now (wdTimes vs now W)).1
  have l2 := (wdAll_q (vs := vs) (s := 1) (by decide) now (wdAll vs now 0 (wdTimes vs now W))).1
  have l3 := (wdAll_q (vs := vs) (s := 2) (by decide) now (wdAll vs now 1 (wdAll vs now 0 (wdTimes vs now W)))).1
  have l4 := (wdAll_q (vs := vs) (s := 3) (by decide) now (wdAll vs now 2 (wdAll vs now 1 (wdAll vs now 0 (wdTimes vs now W))))).1
  unfold wdTick at q ⊢
  obtain ⟨q0, r0⟩ := sameQ.mid l0 (l1.tr (l2.tr (l3.tr l4))) q
  have e0 := (wdTimes_q vs now W).2 hN q0
  have st : ∀ s, s < 4 → still now (W s) := fun s hs => by
    have := q0 s hs
    rw [show wdTimes vs now W s = shTime vs now (W s) from if_pos hs] at this
    exact ((shTime_q vs now (W s)).2 (hN s hs) this).2
  rw [e0] at l1 l2 l3 l4 r0 ⊢
  obtain ⟨q1, r1⟩ := sameQ.mid l1 (l2.tr (l3.tr l4)) r0
  obtain ⟨e1, f1⟩ := (wdAll_q (vs := vs) (s := 0) (by decide) now W).2 q1
  rw [e1] at l2 l3 l4 r1 ⊢
  obtain ⟨q2, r2⟩ := sameQ.mid l2 (l3.tr l4) r1
  obtain ⟨e2, f2⟩ := (wdAll_q (vs := vs) (s := 1) (by decide) now W).2 q2
  rw [e2] at l3 l4 r2 ⊢
  obtain ⟨q3, r3⟩ := sameQ.mid l3 l4 r2
  obtain ⟨e3, f3⟩ := (wdAll_q (vs := vs) (s := 2) (by decide) now W).2 q3
  rw [e3] at l4 r3 ⊢
  obtain ⟨e4, f4⟩ := (wdAll_q (vs := vs) (s := 3) (by decide) now W).2 r3
  refine ⟨e4, st, fun later hs => ?_⟩
  rw [wdTimes_off vs later hs, f1, f2, f3, f4]
/-- n ticks, one after another -/
def wdTicks (vs : Nat → List Prg) : Nat → Nat → Wld → Wld
  | 0, _, W => W
  | n + 1, c, W => wdTicks vs n (c + 1) (wdTick vs (nI (c + 1)) W)
theorem wdTicks_add (vs : Nat → List Prg) : ∀ (m n c : Nat) (W : Wld), wdTicks vs (m + n) c W = wdTicks vs n (c + m) (wdTicks vs m c W)
  | 0, n, c, W => by rw [Nat.zero_add]; rfl
  | m + 1, n, c, W => by
    rw [Nat.succ_add]
    show wdTicks vs (m + n) (c + 1) _ = wdTicks vs n (c + (m + 1)) (wdTicks vs m (c + 1) _)
    rw [wdTicks_add vs m n (c + 1), show c + 1 + m = c + (m + 1) by omega]
theorem wdTicks_still (vs : Nat → List Prg) {W : Wld} : ∀ (n c : Nat), (∀ j, c < j → j ≤ c + n → wdTick vs (nI j) W = W) → wdTicks vs n c W = W
  | 0, c, _ => rfl
  | n + 1, c, h => by
    show wdTicks vs n (c + 1) (wdTick vs (nI (c + 1)) W) = W
    rw [h (c + 1) (by omega) (by omega)]
    exact wdTicks_still vs n (c + 1) (fun j h1 h2 => h j (by omega) (by omega))
/-! MESSAGES, gone through by the next place -/
def wdStep (vs : Nat → List Prg) (now : Int32) (s : Nat) (W : Wld) (m : Nat × Nat × Nat) : Wld :=
  if (wdSend vs now W s m.2.1 m.2.2).1 = true ∧ shL ((wdSend vs now W s m.2.1 m.2.2).2 s) ≠ -1 then upf (wdSend vs now W s m.2.1 m.2.2).2 s (stl vs now (shForget ((wdSend vs now W s m.2.1 m.2.2).2 s) m.1))
  else (wdSend vs now W s m.2.1 m.2.2).2
def wdLoop (vs : Nat → List Prg) (now : Int32) (s lim : Nat) : Nat → Nat → Wld → Wld
  | 0, _, W => W
  | i + 1, q, W => if shL (W s) = -1 then W else match (shO (W s)).find? (fun m => decide (q ≤ m.1)) with
    | none => W
    | some m => if lim ≤ m.1 then W else wdLoop vs now s lim i (m.1 + 1) (wdStep vs now s W m)
theorem wdMsgs_step {vs : Nat → List Prg} {now : Int32} {s p : Nat} {ps : List Nat} {W : Wld} (hl : shL (W s) ≠ -1) {m : Nat × Nat × Nat} (hf : (shO (W s)).find? (fun m => decide (m.1 = p)) = some m) (em : m.1 = p) : wdMsgs vs now s (p :: ps) W = wdMsgs vs now s ps (wdStep vs now s W m) := by
  show (if shL (W s) = -1 then W else match (shO (W s)).find? (fun m => decide (m.1 = p)) with | none => _ | some m => _) = _
  rw [if_neg hl, hf]
  show (if (wdSend vs now W s m.2.1 m.2.2).1 = true ∧ shL ((wdSend vs now W s m.2.1 m.2.2).2 s) ≠ -1 then wdMsgs vs now s ps (upf (wdSend vs now W s m.2.1 m.2.2).2 s (stl vs now (shForget ((wdSend vs now W s m.2.1 m.2.2).2 s) p))) else wdMsgs vs now s ps (wdSend vs now W s m.2.1 m.2.2).2) = _
  unfold wdStep
  rw [em]
  by_cases c : (wdSend vs now W s m.2.1 m.2.2).1 = true ∧ shL ((wdSend vs now W s m.2.1 m.2.2).2 s) ≠ -1
  · rw [if_pos c, if_pos c]
  · rw [if_neg c, if_neg c]
theorem wdStep_G {vs : Nat → List Prg} (hv : vsOK vs) (hd : vsDg vs) (now : Int32) {s : Nat} (hs : s < 4) {K : Nat} (hK : K ≤ 10000) {W : Wld} (hW : WdS vs K W) (hl : shL (W s) ≠ -1) {m : Nat × Nat × Nat} (hm : m ∈ shO (W s)) : WdG vs false W (wdStep vs now s W m) := by
  obtain ⟨C, c1, c2⟩ := hW s hs
  obtain ⟨m1, m2, m3, m4, m5⟩ := msg_ok hd c1.1 hm
  have G := wdSend_G hv now (W := W) (s := s) (n := m.2.1) (k := m.2.2) hl m1 (fun q => by
    obtain ⟨d, d1, d2⟩ := m5 q
    rw [d2, zi_nat (by omega)]; exact d1)
  obtain ⟨E, e1, e2⟩ := G s hs C c1
  have hU := G.on hW
  unfold wdStep
  split
  · next c =>
    have still : m ∈ shO ((wdSend vs now W s m.2.1 m.2.2).2 s) := by
      rw [e1.1.2.1.2.1]
      refine noG_keep (e2.2.2.2.2.2.1 rfl (works_upX c1.1.1 hl)).1 ?_
      rw [← c1.1.2.1.2.1]; exact hm
    have hq := hU.q hs
    exact G.less.tr (WdG.one (fun D hD => forget_S now hD c.2 ⟨m, still, rfl⟩ (by omega)))
  · exact G.less
theorem find_first {O : List (Nat × Nat × Nat)} (hp : O.Pairwise (fun x y => x.1 < y.1)) {m : Nat × Nat × Nat} (hm : m ∈ O) (f : Nat × Nat × Nat → Bool) (h1 : f m = true) (h2 : ∀ x ∈ O, x.1 < m.1 → f x = false) : O.find? f = some m := by
  induction O with
  | nil => cases hm
  | cons a r ih =>
    rw [List.pairwise_cons] at hp
    rcases List.mem_cons.mp hm with e | hm
    · rw [← e, List.find?_cons_of_pos h1]
    · rw [List.find?_cons_of_neg (by rw [h2 a List.mem_cons_self (hp.1 m hm)]; exact fun q => Bool.noConfusion q)]
      exact ih hp.2 hm (fun x hx => h2 x (List.mem_cons_of_mem _ hx))
theorem wdLoop_eq {vs : Nat → List Prg} (hv : vsOK vs) (hd : vsDg vs) (now : Int32) {s : Nat} (hs : s < 4) {K : Nat} (hK : K ≤ 10000) {lim : Nat} : ∀ (ps : List Nat) (fuel q : Nat) (W : Wld) (C0 C : List Rec), WdS vs K W → ShS vs (W s) C → C0 <+: C → C0.length = lim → ps.length ≤ fuel → ps.Pairwise (fun x y => x < y) → (∀ p ∈ ps, q ≤ p ∧ p < lim) → (∀ m ∈ shO (W s), q ≤ m.1 → m.1 < lim → m.1 ∈ ps) →
    wdLoop vs now s lim fuel q W = wdMsgs vs now s ps W
  | [], fuel, q, W, C0, C, hW, hC, h0, h1, h2, h3, h4, h5 => by
    show _ = W
    cases fuel with
    | zero => rfl
    | succ i =>
      show (if shL (W s) = -1 then W else match (shO (W s)).find? (fun m => decide (q ≤ m.1)) with | none => W | some m => if lim ≤ m.1 then W else _) = W
      split
      · rfl
      · cases hf : (shO (W s)).find? (fun m => decide (q ≤ m.1)) with
        | none => rfl
        | some m =>
          have hm := List.mem_of_find?_eq_some hf
          have em : q ≤ m.1 := by have z := List.find?_some hf; exact of_decide_eq_true z
          show (if lim ≤ m.1 then W else _) = W
          rw [if_pos]
          by_cases c : lim ≤ m.1
          · exact c
          · exact absurd (h5 m hm em (by omega)) (by simp)
  | p :: ps, fuel, q, W, C0, C, hW, hC, h0, h1, h2, h3, h4, h5 => by
    rw [List.pairwise_cons] at h3
    obtain ⟨p1, p2⟩ := h4 p List.mem_cons_self
    by_cases hl : shL (W s) = -1
    · have e : wdMsgs vs now s (p :: ps) W = W := by unfold wdMsgs; rw [if_pos hl]
      rw [e]
      cases fuel with
      | zero => rfl
      | succ i =>
        show (if shL (W s) = -1 then W else _) = W
        rw [if_pos hl]
    · have hpw : (shO (W s)).Pairwise (fun x y => x.1 < y.1) := by rw [hC.1.2.1.2.1]; exact (bkG_log hC.1.v).2.2.2
      cases hf : (shO (W s)).find? (fun m => decide (m.1 = p)) with
      | none =>
        have e : wdMsgs vs now s (p :: ps) W = wdMsgs vs now s ps W := by
          show (if shL (W s) = -1 then W else match (shO (W s)).find? (fun m => decide (m.1 = p)) with | none => _ | some m => _) = _
          rw [if_neg hl, hf]
        rw [e]
        refine wdLoop_eq hv hd now hs hK ps fuel q W C0 C hW hC h0 h1 (by rw [List.length_cons] at h2; omega) h3.2 (fun x hx => h4 x (List.mem_cons_of_mem _ hx)) (fun m hm g1 g2 => ?_)
        rcases List.mem_cons.mp (h5 m hm g1 g2) with z | z
        · rw [List.find?_eq_none] at hf
          exact absurd (decide_eq_true z) (hf m hm)
        · exact z
      | some m =>
        have hm := List.mem_of_find?_eq_some hf
        have em : m.1 = p := by have z := List.find?_some hf; exact of_decide_eq_true z
        rw [wdMsgs_step hl hf em]
        cases fuel with
        | zero => rw [List.length_cons] at h2; omega
        | succ i =>
          have hf2 : (shO (W s)).find? (fun m => decide (q ≤ m.1)) = some m := find_first hpw hm _ (decide_eq_true (by omega)) (fun x hx hlt => by
            refine decide_eq_false (fun g => ?_)
            have := h5 x hx g (by omega)
            rcases List.mem_cons.mp this with z | z
            · omega
            · have := h3.1 _ z; omega)
          show (if shL (W s) = -1 then W else match (shO (W s)).find? (fun m => decide (q ≤ m.1)) with | none => W | some m => if lim ≤ m.1 then W else wdLoop vs now s lim i (m.1 + 1) (wdStep vs now s W m)) = _
          rw [if_neg hl, hf2]
          show (if lim ≤ m.1 then W else _) = _
          rw [if_neg (by omega)]
          have G := wdStep_G hv hd now hs hK hW hl hm
          obtain ⟨E, e1, e2⟩ := G s hs C hC
          refine wdLoop_eq hv hd now hs hK ps i (m.1 + 1) _ C0 E (G.on hW) e1 (h0.trans e2.1) h1 (by rw [List.length_cons] at h2; omega) h3.2 (fun x hx => ⟨by have := h3.1 x hx; omega, (h4 x (List.mem_cons_of_mem _ hx)).2⟩) (fun x hx g1 g2 => ?_)
          have ho : x ∈ shO (W s) := by
            rw [hC.1.2.1.2.1]
            refine bkO_old e2.1 ?_ (by have := h0.length_le; omega)
            rw [← e1.1.2.1.2.1]; exact hx
          rcases List.mem_cons.mp (h5 x ho (by omega) g2) with z | z
          · omega
          · exact z
theorem sorted_len : ∀ (ps : List Nat) (q lim : Nat), ps.Pairwise (fun x y => x < y) → (∀ p ∈ ps, q ≤ p ∧ p < lim) → ps.length + q ≤ lim ∨ ps = []
  | [], q, lim, _, _ => Or.inr rfl
  | p :: ps, q, lim, h1, h2 => by
    left
    rw [List.pairwise_cons] at h1
    obtain ⟨p1, p2⟩ := h2 p List.mem_cons_self
    rcases sorted_len ps (p + 1) lim h1.2 (fun x hx => ⟨h1.1 x hx, (h2 x (List.mem_cons_of_mem _ hx)).2⟩) with z | z
    · rw [List.length_cons]; omega
    · rw [z]; simp; omega
/-- the way by the next place is the way by the places that were there -/
theorem wdAll_loop {vs : Nat → List Prg} (hv : vsOK vs) (hd : vsDg vs) (now : Int32) {s : Nat} (hs : s < 4) {K : Nat} (hK : K ≤ 10000) {W : Wld} (hW : WdS vs K W) : wdAll vs now s W = wdLoop vs now s (shRecs (W s)) (shRecs (W s)) 0 W := by
  obtain ⟨C, c1, c2⟩ := hW s hs
  by_cases hl : shL (W s) = -1
  · have e1 : shRecs (W s) = 0 := by unfold shRecs; rw [if_pos hl]
    rw [e1]
    show wdMsgs vs now s _ W = W
    cases (shO (W s)).map (fun m => m.1) with
    | nil => rfl
    | cons p ps => unfold wdMsgs; rw [if_pos hl]
  · obtain ⟨l, w, hC⟩ := c1.1.w hl
    have h5 := c1.1.1.1
    have er : shRecs (W s) = C.length := by rw [(shLog_of w.2.1 (by have := w.1; omega)).2, hC]
    have hpw : (shO (W s)).Pairwise (fun x y => x.1 < y.1) := by rw [c1.1.2.1.2.1]; exact (bkG_log c1.1.v).2.2.2
    have lt : ∀ m ∈ shO (W s), m.1 < C.length := fun m hm => by
      rw [c1.1.2.1.2.1] at hm
      have := ((bkG_log c1.1.v).2.2.1 m hm).1
      rw [lgB_place] at this; exact this
    have pw : ((shO (W s)).map (fun m => m.1)).Pairwise (fun x y => x < y) := List.pairwise_map.mpr hpw
    have bd : ∀ p ∈ (shO (W s)).map (fun m => m.1), 0 ≤ p ∧ p < C.length := fun p hp => by
      obtain ⟨m, hm, rfl⟩ := List.mem_map.mp hp
      exact ⟨Nat.zero_le _, lt m hm⟩
    rw [er]
    refine (wdLoop_eq hv hd now hs hK _ C.length 0 W C C hW c1 (List.prefix_refl _) rfl ?_ pw bd (fun m hm _ _ => List.mem_map.mpr ⟨m, hm, rfl⟩)).symm
    rcases sorted_len _ 0 C.length pw bd with z | z
    · omega
    · rw [z]; simp
/-! WHAT CALLS DO TO SHARDS AT REST -/
theorem ShI_le {vs vs1 : Nat → List Prg} (h : vsLe vs vs1) {q : Shd} {C : List Rec} (p : ShI vs q C) : ShI vs1 q C := by
  obtain ⟨p1, ⟨p2, p3, p4⟩, p5⟩ := p
  exact ⟨ShR_le (fun L hL => lgV_le h hL) p1, ⟨p2, p3, fun n hn => ⟨(p4 n hn).1, prgOf_le h (p4 n hn).2.1, (p4 n hn).2.2⟩⟩, p5⟩
theorem WdS_le {vs vs1 : Nat → List Prg} (h : vsLe vs vs1) {K : Nat} {W : Wld} (p : WdS vs K W) : WdS vs1 K W := fun s hs => by
  obtain ⟨C, c1, c2⟩ := p s hs
  exact ⟨C, ⟨ShI_le h c1.1, c1.2⟩, c2⟩
theorem WdS_up {vs : Nat → List Prg} {K K1 : Nat} {W : Wld} {t : Nat} {u : Shd} (p : WdS vs K W) (hK : K ≤ K1) (hu : ∀ C, ShS vs (W t) C → shY (W t) ≤ lgW C + K → ∃ E, ShS vs u E ∧ shY u ≤ lgW E + K1) : WdS vs K1 (upf W t u) := fun s hs => by
  obtain ⟨C, c1, c2⟩ := p s hs
  by_cases c : s = t
  · rw [show upf W t u s = u from if_pos c]
    rw [c] at c1 c2
    exact hu C c1 c2
  · rw [show upf W t u s = W s from if_neg c]
    exact ⟨C, c1, by omega⟩
theorem Gr.y {g : Bool} {h q : Shd} {C E : List Rec} (a : Gr g h C q E) {K : Nat} (hK : shY h ≤ lgW C + K) : shY q ≤ lgW E + K := by
  have := a.2.1
  omega
/-- a lease is given, or lengthened -/
theorem lease_S {vs : Nat → List Prg} {h : Shd} {C : List Rec} (hS : ShS vs h C) (hl : shL h ≠ -1) {n : Nat} (hn : n < shN h) (h0 : wkP (flW (shF h n)) = 0) (k u : Int32) : ShS vs (shSetF h n (flP (shF h n), flE (shF h n), flW (shF h n), tkLease (flT (shF h n)) k u)) C ∧ shY (shSetF h n (flP (shF h n), flE (shF h n), flW (shF h n), tkLease (flT (shF h n)) k u)) ≤ shY h + 1 := by
  obtain ⟨⟨r, ⟨s1, s2, s3⟩, b, t⟩, c, m⟩ := hS
  refine ⟨⟨⟨ShR_same r rfl rfl rfl rfl, ⟨s1, s2, fun x hx => ?_⟩, b, fun x hx => ?_⟩, fun q x hx => ?_, m⟩, ?_⟩
  · show flZ vs _ (upf (shF h) n _ x)
    by_cases e : x = n
    · rw [show upf (shF h) n _ x = _ from if_pos e, e]
      obtain ⟨z1, z2, z3, z4⟩ := s3 n (by omega)
      exact ⟨z1, z2, z3, z4⟩
    · rw [show upf (shF h) n _ x = _ from if_neg e]; exact s3 x hx
  · show flK (upf (shF h) n _ x) = 0 ∨ (wkP (flW (upf (shF h) n _ x)) = 0 ∧ shL h ≠ -1)
    by_cases e : x = n
    · rw [show upf (shF h) n _ x = _ from if_pos e]; exact Or.inr ⟨h0, hl⟩
    · rw [show upf (shF h) n _ x = _ from if_neg e]; exact t x hx
  · show wkP (flW (upf (shF h) n _ x)) ≠ 5
    by_cases e : x = n
    · rw [show upf (shF h) n _ x = _ from if_pos e]
      show wkP (flW (shF h n)) ≠ 5
      omega
    · rw [show upf (shF h) n _ x = _ from if_neg e]; exact c q x hx
  · unfold shY
    show shQ h + 2 * fusN (shZ h) (shD h) + (if shL h = -1 then 1 else 0) + leaN (shN h) (upf (shF h) n (flP (shF h n), flE (shF h n), flW (shF h n), tkLease (flT (shF h n)) k u)) ≤ _
    have z : leaN (shN h) (upf (shF h) n (flP (shF h n), flE (shF h n), flW (shF h n), tkLease (flT (shF h n)) k u)) + (if flK (shF h n) = 0 then 0 else 1) = leaN (shN h) (shF h) + (if flK ((flP (shF h n), flE (shF h n), flW (shF h n), tkLease (flT (shF h n)) k u) : Flw) = 0 then 0 else 1) := sumN_upf (fun f => if flK f = 0 then 0 else 1) (shF h) n _ (shN h) hn
    have b1 : (if flK ((flP (shF h n), flE (shF h n), flW (shF h n), tkLease (flT (shF h n)) k u) : Flw) = 0 then 0 else 1) ≤ 1 := by split <;> omega
    omega
/-- a fuse is set -/
theorem fuse_S {vs : Nat → List Prg} {h : Shd} {C : List Rec} (hS : ShS vs h C) {r : Nat} (hr : r < shZ h) (hu : dkU (shD h r) = true) {b : Int32} (hb : ¬ b < 0) : ShS vs (shSetD h (upf (shD h) r (dkL (shD h r), true, b, dkT (shD h r), dkR (shD h r)))) C ∧ shY (shSetD h (upf (shD h) r (dkL (shD h r), true, b, dkT (shD h r), dkR (shD h r)))) ≤ shY h + 2 := by
  obtain ⟨⟨R, s, ⟨b1, b2, b3⟩, t⟩, c, m⟩ := hS
  have eL : ∀ x, dkL (upf (shD h) r (dkL (shD h r), true, b, dkT (shD h r), dkR (shD h r)) x) = dkL (shD h x) := fun x => by
    by_cases e : x = r
    · rw [show upf (shD h) r _ x = _ from if_pos e, e]
    · rw [show upf (shD h) r _ x = _ from if_neg e]
  have eU : ∀ x, dkU (upf (shD h) r (dkL (shD h r), true, b, dkT (shD h r), dkR (shD h r)) x) = dkU (shD h x) := fun x => by
    by_cases e : x = r
    · rw [show upf (shD h) r _ x = _ from if_pos e, e]; exact hu.symm
    · rw [show upf (shD h) r _ x = _ from if_neg e]
  have em : shMost (shSetD h (upf (shD h) r (dkL (shD h r), true, b, dkT (shD h r), dkR (shD h r)))) = shMost h := by
    unfold shMost shUps
    show decide (shZ h < 2 * ((List.range (shZ h)).filter (fun x => dkU (upf (shD h) r (dkL (shD h r), true, b, dkT (shD h r), dkR (shD h r)) x))).length) = _
    rw [show (fun x => dkU (upf (shD h) r (dkL (shD h r), true, b, dkT (shD h r), dkR (shD h r)) x)) = (fun x => dkU (shD h x)) from funext eU]
  refine ⟨⟨⟨?_, s, ⟨b1, fun x hx => ?_, b3⟩, t⟩, c, fun q => by rw [em]; exact m q⟩, ?_⟩
  · obtain ⟨h5, P, Q, v, x, q, cc, w⟩ := R
    refine ⟨h5, P, Q, v, fun y hy => ?_, ⟨q.1, fun y hy g => ?_⟩, cc, fun g => ?_⟩
    · show lgX _ P (dkL (upf (shD h) r _ y))
      rw [eL]; exact x y hy
    · show C <+: dkL (upf (shD h) r _ y)
      rw [eL]; exact q.2 y hy g
    · obtain ⟨l, ⟨w1, w2, w3, w4, w5⟩, hP, hC⟩ := w g
      refine ⟨l, ⟨w1, w2, ?_, fun y hy g => ?_, by rw [em]; exact w5⟩, ?_, ?_⟩
      · show dkU (upf (shD h) r _ l) = true
        rw [eU]; exact w3
      · show dkL (upf (shD h) r _ y) = dkL (upf (shD h) r _ l)
        have g : dkU (upf (shD h) r (dkL (shD h r), true, b, dkT (shD h r), dkR (shD h r)) y) = true := g
        rw [eU] at g
        rw [eL, eL]; exact w4 y hy g
      · show P (shT h) = dkL (upf (shD h) r _ l)
        rw [eL]; exact hP
      · show C = dkL (upf (shD h) r _ l)
        rw [eL]; exact hC
  · obtain ⟨y1, y2, y3⟩ := b2 x hx
    show (dkL (upf (shD h) r _ x)).length ≤ shQ h ∧ dkOK (upf (shD h) r _ x) ∧ _
    rw [eL]
    refine ⟨y1, ?_⟩
    show dkOK (upf (shD h) r (dkL (shD h r), true, b, dkT (shD h r), dkR (shD h r)) x) ∧ (dkU (upf (shD h) r (dkL (shD h r), true, b, dkT (shD h r), dkR (shD h r)) x) = false → dkF (upf (shD h) r (dkL (shD h r), true, b, dkT (shD h r), dkR (shD h r)) x) = -1)
    by_cases e : x = r
    · rw [show upf (shD h) r _ x = _ from if_pos e]
      rw [e] at y2
      exact ⟨fun _ => ⟨(y2 hu).1, Or.inr hb⟩, fun q => (by cases q)⟩
    · rw [show upf (shD h) r _ x = _ from if_neg e]; exact ⟨y2, y3⟩
  · unfold shY
    show shQ h + 2 * fusN (shZ h) (upf (shD h) r (dkL (shD h r), true, b, dkT (shD h r), dkR (shD h r))) + (if shL h = -1 then 1 else 0) + leaN (shN h) (shF h) ≤ _
    have z : fusN (shZ h) (upf (shD h) r (dkL (shD h r), true, b, dkT (shD h r), dkR (shD h r))) + (if dkF (shD h r) = -1 then 0 else 1) = fusN (shZ h) (shD h) + (if dkF ((dkL (shD h r), true, b, dkT (shD h r), dkR (shD h r)) : Dk) = -1 then 0 else 1) := sumN_upf (fun d : Dk => if dkF d = -1 then 0 else 1) (shD h) r _ (shZ h) hr
    have b1 : (if dkF ((dkL (shD h r), true, b, dkT (shD h r), dkR (shD h r)) : Dk) = -1 then 0 else 1) ≤ 1 := by split <;> omega
    omega
/-! POWER -/
theorem ShR.C_of {V : List Rec → Prop} {h : Shd} {C : List Rec} (h1 : ShR V h C) : shZ h ≤ 5 := h1.1
theorem raise_S {vs : Nat → List Prg} (now : Int32) {h : Shd} {C : List Rec} (hS : ShS vs h C) {r : Nat} (hr : r < shZ h) (hd : dkU (shD h r) = false) {K : Nat} (hK : shY h ≤ lgW C + K) :
    ∃ E, ShS vs (stl vs now (shRaise h r)) E ∧ shY (stl vs now (shRaise h r)) ≤ lgW E + K ∧ tkLe h (stl vs now (shRaise h r)) ∧ C <+: E := by
  obtain ⟨⟨R, s, ⟨b1, b2, b3⟩, t⟩, c, m⟩ := hS
  generalize hd9 : (if shWorks h then dkAlike (dkL (shD h r), true, dkF (shD h r), 0, dkR (shD h r)) (shD h (shL h).toNatClampNeg) else ((dkL (shD h r), true, dkF (shD h r), 0, dkR (shD h r)) : Dk)) = d9
  have e : shRaise h r = shSetD h (upf (shD h) r d9) := by rw [← hd9]; rfl
  have R2 := shRaise_R R hr hd
  rw [e] at R2 ⊢
  have f1 : dkF (shD h r) = -1 := (b2 r hr).2.2 hd
  have ok0 : dkOK (dkL (shD h r), true, dkF (shD h r), 0, dkR (shD h r)) := fun _ => ⟨rfl, Or.inl f1⟩
  have q9 : dkOK d9 ∧ dkF d9 = -1 ∧ (dkL d9).length ≤ shQ h := by
    rw [← hd9]
    split
    · next w =>
      have hl := (works_iff h).mp w
      obtain ⟨-, P, Q, -, -, -, -, hW⟩ := R
      obtain ⟨l, ⟨w1, w2, -⟩, -, -⟩ := hW hl
      rw [w2, zi_nat (by have := R2.1; have : shZ (shSetD h (upf (shD h) r d9)) = shZ h := rfl; omega)]
      exact ⟨dkOK_alike _ ok0, (dkDn_alike _ _).1 f1, Nat.le_trans (dkLen_alike _ _) (b2 l w1).1⟩
    · exact ⟨ok0, f1, (b2 r hr).1⟩
  have hB : ShB (shSetD h (upf (shD h) r d9)) := by
    refine ⟨b1, fun x hx => ?_, b3⟩
    show (dkL (upf (shD h) r d9 x)).length ≤ shQ h ∧ dkOK (upf (shD h) r d9 x) ∧ (dkU (upf (shD h) r d9 x) = false → dkF (upf (shD h) r d9 x) = -1)
    by_cases ex : x = r
    · rw [show upf (shD h) r d9 x = d9 from if_pos ex]; exact ⟨q9.2.2, q9.1, fun _ => q9.2.1⟩
    · rw [show upf (shD h) r d9 x = shD h x from if_neg ex]; exact b2 x hx
  have hI : ShI vs (shSetD h (upf (shD h) r d9)) C := ⟨R2, s, hB, t⟩
  obtain ⟨E, e1, e2⟩ := stl_I now hI (fun q => c q)
  refine ⟨E, e1, e2.y ?_, e2.2.2.2.2.2.2, e2.1⟩
  have : fusN (shZ h) (upf (shD h) r d9) ≤ fusN (shZ h) (shD h) := sumN_mono _ (fun i hi => by
    show (if dkF (upf (shD h) r d9 i) = -1 then 0 else 1) ≤ (if dkF (shD h i) = -1 then 0 else 1)
    by_cases ex : i = r
    · rw [show upf (shD h) r d9 i = d9 from if_pos ex, if_pos q9.2.1]; exact Nat.zero_le _
    · rw [show upf (shD h) r d9 i = shD h i from if_neg ex]; exact Nat.le_refl _)
  unfold shY at hK ⊢
  show shQ h + 2 * fusN (shZ h) (upf (shD h) r d9) + (if shL h = -1 then 1 else 0) + leaN (shN h) (shF h) ≤ _
  omega
theorem lower_S {vs : Nat → List Prg} (now : Int32) {h : Shd} {C : List Rec} (hS : ShS vs h C) {r : Nat} (hr : r < shZ h) {K : Nat} (hK : shY h ≤ lgW C + K) :
    ∃ E, ShS vs (stl vs now (shLower h r)) E ∧ shY (stl vs now (shLower h r)) ≤ lgW E + (K + 1) ∧ tkLe h (stl vs now (shLower h r)) ∧ C <+: E := by
  obtain ⟨⟨R, s, ⟨b1, b2, b3⟩, t⟩, c, m⟩ := hS
  have R2 := shLower_R R hr
  have fd : ∀ x, x < shZ h → dkF (shD h x) = -1 → dkF (upf (shD h) r (dkL (shD h r), false, -1, dkT (shD h r), dkR (shD h r)) x) = -1 := fun x hx q => by
    by_cases ex : x = r
    · rw [show upf (shD h) r _ x = _ from if_pos ex]
    · rw [show upf (shD h) r _ x = shD h x from if_neg ex]; exact q
  have this : fusN (shZ h) (upf (shD h) r (dkL (shD h r), false, -1, dkT (shD h r), dkR (shD h r))) ≤ fusN (shZ h) (shD h) := sumN_mono _ (fun i hi => by
    show (if dkF (upf (shD h) r _ i) = -1 then 0 else 1) ≤ (if dkF (shD h i) = -1 then 0 else 1)
    by_cases q : dkF (shD h i) = -1
    · rw [if_pos (fd i hi q), if_pos q]; exact Nat.le_refl _
    · rw [if_neg q]; split <;> omega)
  have hD : ∀ x, x < shZ h → (dkL (upf (shD h) r (dkL (shD h r), false, -1, dkT (shD h r), dkR (shD h r)) x)).length ≤ shQ h ∧ dkOK (upf (shD h) r (dkL (shD h r), false, -1, dkT (shD h r), dkR (shD h r)) x) ∧ (dkU (upf (shD h) r (dkL (shD h r), false, -1, dkT (shD h r), dkR (shD h r)) x) = false → dkF (upf (shD h) r (dkL (shD h r), false, -1, dkT (shD h r), dkR (shD h r)) x) = -1) := fun x hx => by
    by_cases ex : x = r
    · rw [show upf (shD h) r _ x = _ from if_pos ex]; exact ⟨(b2 r hr).1, fun q => (by cases q), fun _ => rfl⟩
    · rw [show upf (shD h) r _ x = shD h x from if_neg ex]; exact b2 x hx
  have e : shLower h r = (if shL h = Int32.ofNat r ∨ shMost (shSetD h (upf (shD h) r (dkL (shD h r), false, -1, dkT (shD h r), dkR (shD h r)))) = false then shLose (shSetD h (upf (shD h) r (dkL (shD h r), false, -1, dkT (shD h r), dkR (shD h r)))) else shSetD h (upf (shD h) r (dkL (shD h r), false, -1, dkT (shD h r), dkR (shD h r)))) := rfl
  rw [e] at R2 ⊢
  split at R2
  · next z =>
    rw [if_pos z]
    have hI : ShI vs (shLose (shSetD h (upf (shD h) r (dkL (shD h r), false, -1, dkT (shD h r), dkR (shD h r))))) C := ⟨R2, losF_Z s rfl rfl rfl, ⟨b1, hD, b3⟩, losF_T (h := h) rfl rfl⟩
    obtain ⟨E, e1, e2⟩ := stl_I now hI (fun q => absurd rfl q)
    refine ⟨E, e1, e2.y ?_, (tkLe_los (h := h) (u := shLose (shSetD h (upf (shD h) r (dkL (shD h r), false, -1, dkT (shD h r), dkR (shD h r))))) rfl rfl).tr e2.2.2.2.2.2.2, e2.1⟩
    unfold shY at hK ⊢
    show shQ h + 2 * fusN (shZ h) (upf (shD h) r (dkL (shD h r), false, -1, dkT (shD h r), dkR (shD h r))) + (if (-1 : Int32) = -1 then 1 else 0) + leaN (shN h) (losF (shN h) (shF h)) ≤ _
    rw [leaN_losF, if_pos rfl]
    omega
  · next z =>
    rw [if_neg z]
    have hI : ShI vs (shSetD h (upf (shD h) r (dkL (shD h r), false, -1, dkT (shD h r), dkR (shD h r)))) C := ⟨R2, s, ⟨b1, hD, b3⟩, t⟩
    obtain ⟨E, e1, e2⟩ := stl_I now hI (fun q => c q)
    refine ⟨E, e1, e2.y ?_, e2.2.2.2.2.2.2, e2.1⟩
    unfold shY at hK ⊢
    show shQ h + 2 * fusN (shZ h) (upf (shD h) r (dkL (shD h r), false, -1, dkT (shD h r), dkR (shD h r))) + (if shL h = -1 then 1 else 0) + leaN (shN h) (shF h) ≤ _
    omega
theorem renew_S {vs : Nat → List Prg} {h : Shd} {C : List Rec} (hS : ShS vs h C) {z : Nat} (hz3 : 3 ≤ z) (hz5 : z ≤ 5) (hok : (shRenew h z).1 = true) {K : Nat} (hK : shY h ≤ lgW C + K) : ShS vs (shRenew h z).2 [] ∧ shY (shRenew h z).2 ≤ lgW [] + K ∧ shN (shRenew h z).2 = 0 := by
  obtain ⟨⟨R, ⟨s1, s2, s3⟩, ⟨b1, b2, b3⟩, t⟩, c, m⟩ := hS
  obtain ⟨eC, R2⟩ := shRenew_R (lgV_nil vs) R hz3 hz5 hok
  rw [eC] at s1 s2 s3 hK
  have hN : shN h = 0 := s1
  have e : (shRenew h z).2 = (z, 0, shT h, fun x => if x < 5 then ([], true, -1, 0, dkR (shD h x)) else shD h x, shN h, shF h, shO h, shQ h) := by
    unfold shRenew at hok ⊢
    split at hok
    · cases hok
    · next q => rw [if_neg q]
  rw [e] at R2 ⊢
  have d9 : ∀ x, x < z → (if x < 5 then (([], true, -1, 0, dkR (shD h x)) : Dk) else shD h x) = ([], true, -1, 0, dkR (shD h x)) := fun x hx => if_pos (by omega)
  refine ⟨⟨⟨R2, ⟨s1, s2, s3⟩, ⟨hz3, fun x hx => ?_, b3⟩, fun n hn => ?_⟩, fun _ n hn => ?_, fun q => absurd q (show ¬ (0 : Int32) = -1 by decide)⟩, ?_, hN⟩
  · show (dkL (if x < 5 then (([], true, -1, 0, dkR (shD h x)) : Dk) else shD h x)).length ≤ shQ h ∧ dkOK (if x < 5 then (([], true, -1, 0, dkR (shD h x)) : Dk) else shD h x) ∧ (dkU (if x < 5 then (([], true, -1, 0, dkR (shD h x)) : Dk) else shD h x) = false → dkF (if x < 5 then (([], true, -1, 0, dkR (shD h x)) : Dk) else shD h x) = -1)
    rw [d9 x hx]
    exact ⟨Nat.zero_le _, fun _ => ⟨rfl, Or.inl rfl⟩, fun q => (by cases q)⟩
  · have hn : n < shN h := hn
    omega
  · have hn : n < shN h := hn
    omega
  · unfold shY at hK ⊢
    show shQ h + 2 * fusN z (fun x => if x < 5 then (([], true, -1, 0, dkR (shD h x)) : Dk) else shD h x) + (if (0 : Int32) = -1 then 1 else 0) + leaN (shN h) (shF h) ≤ _
    have f0 : fusN z (fun x => if x < 5 then (([], true, -1, 0, dkR (shD h x)) : Dk) else shD h x) ≤ z * 0 := sumN_le z _ (fun i hi => by
      show (if dkF (if i < 5 then (([], true, -1, 0, dkR (shD h i)) : Dk) else shD h i) = -1 then 0 else 1) ≤ 0
      rw [d9 i hi, if_pos rfl]; exact Nat.le_refl _)
    rw [if_neg (by decide)]
    omega
/-! TOKENS are told apart -/
def WdT (tk : Nat) (W : Wld) : Prop := (∀ s n, s < 4 → n < shN (W s) → flK (shF (W s) n) = 0 ∨ ∃ t, 1 ≤ t ∧ t ≤ tk ∧ flK (shF (W s) n) = nI t) ∧ ∀ s n s1 n1, s < 4 → s1 < 4 → n < shN (W s) → n1 < shN (W s1) → flK (shF (W s) n) = flK (shF (W s1) n1) → flK (shF (W s) n) ≠ 0 → s = s1 ∧ n = n1
theorem WdT_le {tk : Nat} {W U : Wld} (h : WdT tk W) (a : ∀ s, s < 4 → tkLe (W s) (U s)) : WdT tk U := by
  obtain ⟨h1, h2⟩ := h
  refine ⟨fun s n hs hn => ?_, fun s n s1 n1 hs hs1 hn hn1 e ne => ?_⟩
  · rcases a s hs n hn with z | ⟨z1, z2⟩
    · exact Or.inl z
    · rw [z2]; exact h1 s n hs z1
  · rcases a s hs n hn with z | ⟨z1, z2⟩
    · exact absurd z ne
    · rcases a s1 hs1 n1 hn1 with y | ⟨y1, y2⟩
      · rw [e] at ne; exact absurd y ne
      · exact h2 s n s1 n1 hs hs1 z1 y1 (by rw [← z2, ← y2]; exact e) (by rw [← z2]; exact ne)
theorem WdG.t {vs : Nat → List Prg} {g : Bool} {K tk : Nat} {W U : Wld} (a : WdG vs g W U) (h : WdS vs K W) (t : WdT tk W) : WdT tk U := WdT_le t (fun s hs => by
  obtain ⟨C, c1, -⟩ := h s hs
  obtain ⟨E, -, e2⟩ := a s hs C c1
  exact e2.2.2.2.2.2.2)
/-- in the beginning -/
def sh0 : Shd := (3, 0, 0, fun _ => ([], true, -1, 0, (0, 0, 0, 0, 0, 0)), 0, fun _ => ([], [], (fun _ => 0, 0, 0, 0, 0, 0, 0, 0), (0, 0, 0, 0, 0, 0)), [], 0)
theorem sh0_S (vs : Nat → List Prg) : ShS vs sh0 [] ∧ shY sh0 = 0 := by
  have hm : shMost sh0 = true := by decide
  refine ⟨⟨⟨⟨by decide, fun _ => [], fun _ => true, ⟨fun t _ => ⟨List.Pairwise.nil, fun r hr => (nomatch hr), fun k r hr => by simp at hr⟩, fun t _ => lgV_nil vs⟩, fun x _ => Or.inl rfl, ⟨by decide, fun x _ _ => List.prefix_refl _⟩, ⟨Nat.le_refl _, fun t _ _ => List.prefix_refl _⟩, fun _ => ⟨0, ⟨by decide, rfl, rfl, fun x _ _ => rfl, hm⟩, rfl, rfl⟩⟩, ⟨rfl, rfl, fun n hn => absurd hn (Nat.not_lt_zero _)⟩, ⟨by decide, fun x _ => ⟨Nat.le_refl _, fun _ => ⟨rfl, Or.inl rfl⟩, fun q => (by cases q)⟩, Nat.le_refl _⟩, fun n hn => absurd hn (Nat.not_lt_zero _)⟩, fun _ n hn => absurd hn (Nat.not_lt_zero _), fun q => absurd q (by decide)⟩, by decide⟩
