/-! THE CALLS, IN THE MODEL -/
def flw (W : Wld) (w : Int32) : Option (Nat × Nat) := if w < 0 then none else if w.toNatClampNeg / 4 < shN (W (w.toNatClampNeg % 4)) then some (w.toNatClampNeg % 4, w.toNatClampNeg / 4) else none
theorem flw_some {W : Wld} {w : Int32} {s n : Nat} (h : flw W w = some (s, n)) : s < 4 ∧ n < shN (W s) ∧ ∃ m, m < 2147483648 ∧ w = nI m ∧ s = m % 4 ∧ n = m / 4 := by
  unfold flw at h
  split at h
  · cases h
  · next c =>
    split at h
    · next d =>
      have h := Option.some.inj h
      obtain ⟨m, m1, rfl⟩ := zi_of c
      rw [zi_nat m1] at h d
      have h1 : m % 4 = s := congrArg Prod.fst h
      have h2 : m / 4 = n := congrArg Prod.snd h
      rw [← h1, ← h2]
      exact ⟨Nat.mod_lt _ (by decide), d, m, m1, rfl, rfl, rfl⟩
    · cases h
theorem flw_none {W : Wld} {w : Int32} (h : flw W w = none) : w < 0 ∨ ∃ m, m < 2147483648 ∧ w = nI m ∧ shN (W (m % 4)) ≤ m / 4 := by
  unfold flw at h
  split at h
  · next c => exact Or.inl c
  · next c =>
    split at h
    · cases h
    · next d =>
      obtain ⟨m, m1, rfl⟩ := zi_of c
      rw [zi_nat m1] at d
      exact Or.inr ⟨m, m1, rfl, by omega⟩
def wdStart (vs : Nat → List Prg) (now : Int32) (W : Wld) (rq p x : Int32) : Int32 × Wld :=
  if rq < 0 then (-1, W) else
  let s := rq.toNatClampNeg % 4
  if shL (W s) = -1 then (-1, W) else match shOrg (W s) rq with
  | some n => (nI (s + 4 * n), W)
  | none => if p < 0 ∨ (8 : Int32) ≤ p ∨ vs p.toNatClampNeg = [] ∨ shN (W s) = 16 then (-1, W) else
    (if (shBegin vs now (W s) p.toNatClampNeg x rq).1 = true then nI (s + 4 * shN (W s)) else -1, upf W s (stl vs now (shBegin vs now (W s) p.toNatClampNeg x rq).2))
def wdSignal (vs : Nat → List Prg) (now : Int32) (W : Wld) (rq w v : Int32) : Bool × Wld :=
  if rq < 0 then (false, W) else match flw W w with
  | none => (false, W)
  | some (s, n) => if shL (W s) = -1 then (false, W) else if hasSig (flE (shF (W s) n)) rq = true then (true, W) else if wkP (flW (shF (W s) n)) = 4 then (false, W) else
    ((shBring now (W s) n 8 v 0 rq).1, upf W s (stl vs now (shBring now (W s) n 8 v 0 rq).2))
def wdCancel (vs : Nat → List Prg) (now : Int32) (W : Wld) (w : Int32) : Bool × Wld := match flw W w with
  | none => (false, W)
  | some (s, n) => if shL (W s) = -1 ∨ wkP (flW (shF (W s) n)) = 4 then (false, W) else
    ((shBring now (W s) n 11 (-2) 0 0).1, upf W s (stl vs now (shBring now (W s) n 11 (-2) 0 0).2))
/-- what is thrown, and the value -/
def wdQuery (W : Wld) (w v : Int32) : Int32 × Int32 := match flw W w with
  | none => (1, 0)
  | some (s, n) => if v < 0 ∨ (8 : Int32) ≤ v then (1, 0) else if shL (W s) = -1 then (2, 0) else (0, wkV (flW (shF (W s) n)) v.toNatClampNeg)
/-- the row of a number offers work -/
def offr (W : Wld) (now kind : Int32) (w : Nat) : Bool := decide (w / 4 < shN (W (w % 4)) ∧ shL (W (w % 4)) ≠ -1 ∧ wkP (flW (shF (W (w % 4)) (w / 4))) = 0 ∧ flK (shF (W (w % 4)) (w / 4)) = 0 ∧ (flT (shF (W (w % 4)) (w / 4))).2.2.2.1 ≤ now ∧ (flT (shF (W (w % 4)) (w / 4))).1 = kind)
def snc (W : Wld) (w : Nat) : Int32 := (flT (shF (W (w % 4)) (w / 4))).2.2.2.1
def bst (W : Wld) (now kind : Int32) (b : Option Nat) (w : Nat) : Option Nat := if offr W now kind w = true then (match b with
  | none => some w
  | some x => if snc W w < snc W x then some w else some x) else b
def pollN (W : Wld) (now kind : Int32) (k : Nat) : Option Nat := (List.range k).foldl (bst W now kind) none
def wdLease (W : Wld) (s n : Nat) (k u : Int32) : Wld := upf W s (shSetF (W s) n (flP (shF (W s) n), flE (shF (W s) n), flW (shF (W s) n), tkLease (flT (shF (W s) n)) k u))
def wdPoll (now : Int32) (W : Wld) (tk : Nat) (kind : Int32) : Int32 × Wld := match pollN W now kind 64 with
  | none => (-1, W)
  | some w => (nI (tk + 1), wdLease W (w % 4) (w / 4) (nI (tk + 1)) (now + 10))
/-- the row that a token leases -/
def lsd (W : Wld) (t : Int32) : Option Nat := if t ≤ 0 then none else (List.range 64).find? (fun w => decide (w / 4 < shN (W (w % 4))) && decide (flK (shF (W (w % 4)) (w / 4)) = t))
def wdBeat (now : Int32) (W : Wld) (t : Int32) : Bool × Wld := match lsd W t with
  | none => (false, W)
  | some w => (true, wdLease W (w % 4) (w / 4) t (now + 10))
def wdFinish (vs : Nat → List Prg) (now : Int32) (W : Wld) (t v : Int32) : Bool × Wld := match lsd W t with
  | none => (false, W)
  | some w => ((shBring now (W (w % 4)) (w / 4) 2 v 0 0).1, upf W (w % 4) (stl vs now (shBring now (W (w % 4)) (w / 4) 2 v 0 0).2))
def wdFail (vs : Nat → List Prg) (now : Int32) (W : Wld) (t : Int32) : Bool × Wld := match lsd W t with
  | none => (false, W)
  | some w => ((shFail now (W (w % 4)) (w / 4)).1, upf W (w % 4) (stl vs now (shFail now (W (w % 4)) (w / 4)).2))
def wdTask (W : Wld) (t q : Int32) : Int32 := match lsd W t with
  | none => -1
  | some w => if q = 0 then nI w else if q = 1 then (flT (shF (W (w % 4)) (w / 4))).2.1 else if q = 2 then (flT (shF (W (w % 4)) (w / 4))).2.2.1 else if q = 3 then (flT (shF (W (w % 4)) (w / 4))).2.2.2.2.2 else -1
def wdReps (W : Wld) (s n : Int32) : Bool × Wld := if s < 0 ∨ (4 : Int32) ≤ s ∨ n < 3 ∨ 5 < n then (false, W) else ((shRenew (W s.toNatClampNeg) n.toNatClampNeg).1, upf W s.toNatClampNeg (shRenew (W s.toNatClampNeg) n.toNatClampNeg).2)
def rplc (W : Wld) (s r : Int32) : Option (Nat × Nat) := if s < 0 ∨ (4 : Int32) ≤ s ∨ r < 0 ∨ nI (shZ (W s.toNatClampNeg)) ≤ r then none else some (s.toNatClampNeg, r.toNatClampNeg)
def wdPower (vs : Nat → List Prg) (now : Int32) (W : Wld) (s r : Int32) (on : Bool) : Bool × Wld := match rplc W s r with
  | none => (false, W)
  | some (s, r) => if dkU (shD (W s) r) = on then (false, W) else (true, upf W s (stl vs now (if on = true then shRaise (W s) r else shLower (W s) r)))
def wdFuse (W : Wld) (s r b : Int32) : Bool × Wld := match rplc W s r with
  | none => (false, W)
  | some (s, r) => if dkU (shD (W s) r) = false ∨ b < 0 ∨ 100000 < b then (false, W) else (true, upf W s (shSetD (W s) (upf (shD (W s)) r (dkL (shD (W s) r), true, b, dkT (shD (W s) r), dkR (shD (W s) r)))))
def wdFlow (W : Wld) (w q : Int32) : Int32 := match flw W w with
  | none => -1
  | some (s, n) =>
    let f := shF (W s) n
    if q = 0 then nI (wkP (flW f)) else if q = 1 then (if wkP (flW f) = 4 then wkO (flW f) else 0) else if q = 2 then nI (flE f).length
    else if q = 3 then (evAt (flE f) 0).2.1 - (evAt (flE f) 0).2.1 / 8 * 8 else if q = 4 then nI (wkC (flW f)) else if q = 5 then nI (cntK 8 (flE f) - wkT (flW f))
    else if q = 6 then (if flO f < 0 then (-1 - flO f) / 64 else -1) else -1
def wdEvent (W : Wld) (w k q : Int32) : Int32 × Int32 := match flw W w with
  | none => (1, 0)
  | some (s, n) => if k < 0 ∨ nI (flE (shF (W s) n)).length ≤ k then (1, 0) else if q < 0 ∨ (4 : Int32) ≤ q then (2, 0) else
    let e := evAt (flE (shF (W s) n)) k.toNatClampNeg
    (0, if q = 0 then nI e.1 else if q = 1 then e.2.1 else if q = 2 then e.2.2.1 else e.2.2.2)
def tskN (h : Shd) (b : Bool) (k : Nat) : Nat := ((List.range k).filter (fun n => decide (wkP (flW (shF h n)) = 0) && (!b || decide (flK (shF h n) ≠ 0)))).length
def wdShard (W : Wld) (s q : Int32) : Int32 := if s < 0 ∨ (4 : Int32) ≤ s then -1 else
  let h := W s.toNatClampNeg
  if q = 0 then shL h else if q = 1 then nI (shT h) else if q = 2 then nI (shZ h) else if q = 3 then nI (shN h) else if q = 4 then nI (shO h).length
  else if q = 5 then nI (tskN h false (shN h)) else if q = 6 then nI (tskN h true (shN h)) else -1
def wdRepl (W : Wld) (s r q : Int32) : Int32 := match rplc W s r with
  | none => -1
  | some (s, r) =>
    let d := shD (W s) r
    if q = 0 then (if dkU d = true then 1 else 0) else if q = 1 then nI (dkL d).length else if q = 2 then nI (dkT d) else if q = 3 then dkF d else -1
/-- the k-th byte of a number, from below -/
def btO (v : Int32) (k : Nat) : Int32 := (v >>> (nI (8 * k) &&& 31)) &&& 255
/-- the byte k of a record -/
def rcBt (r : Rec) (k : Nat) : Int32 :=
  if k = 0 then nI (16 * rcN r + rcK r) else if k < 3 then btO (nI (rcT r)) (2 - k) else if k = 15 then 1
  else btO (if k < 7 then rcA r else if k < 11 then rcB r else rcC r) (3 - (k - 3) % 4)
def dkSz (d : Dk) : Nat := 16 * (dkL d).length + dkT d
def dkBt (d : Dk) (p : Nat) : Int32 := rcBt (if p / 16 < (dkL d).length then (dkL d).getD (p / 16) (0, 0, 0, 0, 0, 0) else dkR d) (p % 16)
def wdDisk (W : Wld) (s r b i : Int32) : Int32 := match rplc W s r with
  | none => -1
  | some (s, r) => if b < 0 ∨ (256 : Int32) ≤ b ∨ i < 0 ∨ (512 : Int32) ≤ i then -1 else
    let d := shD (W s) r
    let p := 512 * b.toNatClampNeg
    if p < dkSz d then (if p + i.toNatClampNeg < dkSz d then dkBt d (p + i.toNatClampNeg) else 0) else -1
