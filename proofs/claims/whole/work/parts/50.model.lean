/-! THE MODEL: what both programs do, in numbers, lists and functions. A record: row, kind, term, a, b, c -/
abbrev Rec : Type := Nat × Nat × Nat × Int32 × Int32 × Int32
abbrev rcN (r : Rec) : Nat := r.1
abbrev rcK (r : Rec) : Nat := r.2.1
abbrev rcT (r : Rec) : Nat := r.2.2.1
abbrev rcA (r : Rec) : Int32 := r.2.2.2.1
abbrev rcB (r : Rec) : Int32 := r.2.2.2.2.1
abbrev rcC (r : Rec) : Int32 := r.2.2.2.2.2
/-- a disk: whole records, up, the fuse (-1: none), bytes behind, the record that they begin -/
abbrev Dk : Type := List Rec × Bool × Int32 × Nat × Rec
abbrev dkL (d : Dk) : List Rec := d.1
abbrev dkU (d : Dk) : Bool := d.2.1
abbrev dkF (d : Dk) : Int32 := d.2.2.1
abbrev dkT (d : Dk) : Nat := d.2.2.2.1
abbrev dkR (d : Dk) : Rec := d.2.2.2.2
def dkWrite (d : Dk) (r : Rec) : Dk :=
  if dkU d = false then d
  else if dkF d ≠ -1 ∧ dkF d < 16 then (dkL d, false, -1, (dkF d).toNatClampNeg, r)
  else (dkL d ++ [r], true, (if dkF d = -1 then -1 else dkF d - 16), dkT d, dkR d)
def dkWrites (d : Dk) (rs : List Rec) : Dk := rs.foldl dkWrite d
/-- how many records two logs have in common at their beginnings -/
def cpl {α : Type} [DecidableEq α] : List α → List α → Nat
  | a :: r, b :: q => if a = b then cpl r q + 1 else 0
  | _, _ => 0
def dkAlike (d l : Dk) : Dk := dkWrites ((dkL d).take (cpl (dkL d) (dkL l)), dkU d, dkF d, 0, dkR d) ((dkL l).drop (cpl (dkL d) (dkL l)))
def lgT (L : List Rec) : Nat := match L.getLast? with
  | none => 0
  | some r => rcT r
def dkLast (d : Dk) : Nat := lgT (dkL d)
def dkAhead (d l : Dk) : Bool := decide (dkLast d > dkLast l) || (decide (dkLast d = dkLast l) && decide ((dkL d).length > (dkL l).length))
/-! Programs: a step is its letter, goal, digit, and two values, each a place (-1: none) and a number -/
abbrev StpQ : Type := Int32 × Int32 × Int32 × (Int32 × Int32) × (Int32 × Int32)
abbrev Prg : Type := List StpQ
/-- an event: kind, a, b, origin -/
abbrev Evt : Type := Nat × Int32 × Int32 × Int32
/-- where a workflow stands: locals, step, walked, phase, awaited, taken, children, outcome -/
abbrev Wkr : Type := (Nat → Int32) × Nat × Nat × Nat × Int32 × Nat × Nat × Int32
abbrev wkV (w : Wkr) : Nat → Int32 := w.1
abbrev wkS (w : Wkr) : Nat := w.2.1
abbrev wkN (w : Wkr) : Nat := w.2.2.1
abbrev wkP (w : Wkr) : Nat := w.2.2.2.1
abbrev wkA (w : Wkr) : Int32 := w.2.2.2.2.1
abbrev wkT (w : Wkr) : Nat := w.2.2.2.2.2.1
abbrev wkC (w : Wkr) : Nat := w.2.2.2.2.2.2.1
abbrev wkO (w : Wkr) : Int32 := w.2.2.2.2.2.2.2
def upf {α : Type} (f : Nat → α) (i : Nat) (v : α) : Nat → α := fun j => if j = i then v else f j
def valOf (V : Nat → Int32) (q : Int32 × Int32) : Int32 := if q.1 = -1 then q.2 else V q.1.toNatClampNeg
/-- the step s of a program; behind its end some step -/
def stpAt (P : Prg) (s : Nat) : StpQ := P.getD s (0, 0, 0, (-1, 0), (-1, 0))
def hasKin (o : Int32) (w : Wkr) (x : Int32) : Bool := if x = -1 then decide (o < 0) else decide (0 ≤ x) && decide (x < Int32.ofNat (wkC w))
/-- the event that the next step needs, if it needs one: kind, a, b -/
def wkWish (P : Prg) (o now : Int32) (w : Wkr) : Option (Nat × Int32 × Int32) :=
  if P.length ≤ wkS w then some (10, 0, 0)
  else if 200 ≤ wkN w then some (12, -1, 0)
  else
    let q := stpAt P (wkS w)
    let x := valOf (wkV w) q.2.2.2.1
    if q.1 = 65 then some (1, q.2.2.1, x)
    else if q.1 = 84 then some (4, now + (if x < 0 then 0 else x), 0)
    else if q.1 = 67 then some (6, q.2.2.1, x)
    else if q.1 = 83 then (if hasKin o w x then some (9, x, valOf (wkV w) q.2.2.2.2) else none)
    else if q.1 = 69 then some (10, x, 0)
    else none
/-- the place of the n-th event of a kind -/
def plcOf (k : Nat) : List Evt → Nat → Option Nat
  | [], _ => none
  | e :: r, n => if e.1 = k then (match n with
      | 0 => some 0
      | n + 1 => (plcOf k r n).map (· + 1)) else (plcOf k r n).map (· + 1)
/-- the place of the END of a child -/
def endOf (c : Int32) : List Evt → Option Nat
  | [] => none
  | e :: r => if e.1 = 7 ∧ e.2.1 = c then some 0 else (endOf c r).map (· + 1)
def evAt (es : List Evt) (k : Nat) : Evt := es.getD k (0, 0, 0, 0)
def wkLeave (w : Wkr) (s : Nat) : Wkr := (wkV w, s, wkN w + 1, wkP w, wkA w, wkT w, wkC w, wkO w)
def wkSet (P : Prg) (w : Wkr) (v : Int32) : Wkr := (if wkS w < P.length then upf (wkV w) (stpAt P (wkS w)).2.1.toNatClampNeg v else wkV w, wkS w + 1, wkN w + 1, wkP w, wkA w, wkT w, wkC w, wkO w)
def wkRest (w : Wkr) (p : Nat) (a : Int32) : Wkr := (wkV w, wkS w, wkN w, p, a, wkT w, wkC w, wkO w)
def wkResume (w : Wkr) : Wkr := (wkV w, wkS w, 0, 5, wkA w, wkT w, wkC w, wkO w)
def wkTook (w : Wkr) : Wkr := (wkV w, wkS w, wkN w, wkP w, wkA w, wkT w + 1, wkC w, wkO w)
def wkBorn (w : Wkr) : Wkr := (wkV w, wkS w, wkN w, wkP w, wkA w, wkT w, wkC w + 1, wkO w)
def reckon (o x y : Int32) : Int32 := if o = 45 then x - y else if o = 42 then x * y else if o = 60 then (if x < y then 1 else 0) else if o = 61 then (if x = y then 1 else 0) else x + y
/-- a step that needs no event -/
def wkWalk (P : Prg) (es : List Evt) (w : Wkr) : Wkr :=
  let q := stpAt P (wkS w)
  let x := valOf (wkV w) q.2.2.2.1
  if q.1 = 71 then wkLeave w q.2.1.toNatClampNeg
  else if q.1 = 73 then wkLeave w (if x ≠ 0 then q.2.1.toNatClampNeg else wkS w + 1)
  else if q.1 = 83 then wkLeave w (wkS w + 1)
  else if q.1 = 87 then (match plcOf 8 es (wkT w) with
    | none => wkRest w 2 0
    | some k => wkSet P (wkTook w) (evAt es k).2.1)
  else if q.1 = 74 then (if 0 ≤ x ∧ x < Int32.ofNat (wkC w) then (match endOf x es with
      | none => wkRest w 3 x
      | some k => wkSet P w (evAt es k).2.2.1) else wkSet P w (-1))
  else wkSet P w (reckon q.1 x (valOf (wkV w) q.2.2.2.2))
/-- it goes on until a step needs an event, or it waits or has ended -/
def wkRun (P : Prg) (o now : Int32) (es : List Evt) : Nat → Wkr → Option (Nat × Int32 × Int32) × Wkr
  | 0, w => (none, w)
  | n + 1, w => if wkP w ≠ 5 then (none, w) else match wkWish P o now w with
    | some k => (some k, w)
    | none => wkRun P o now es n (wkWalk P es w)
/-- an event is taken -/
def wkTake (P : Prg) (w : Wkr) (e : Evt) : Wkr :=
  if e.1 = 1 then wkRest w 0 0
  else if e.1 = 4 then wkRest w 1 e.2.1
  else if e.1 = 6 then wkBorn (wkSet P w (Int32.ofNat (wkC w)))
  else if e.1 = 9 then wkLeave w (wkS w + 1)
  else if e.1 = 2 ∨ e.1 = 3 then wkResume (wkSet P w e.2.1)
  else if e.1 = 5 then wkResume (wkLeave w (wkS w + 1))
  else if e.1 = 8 then (if wkP w = 2 then wkResume (wkSet P (wkTook w) e.2.1) else w)
  else if e.1 = 7 then (if wkP w = 3 ∧ wkA w = e.2.1 then wkResume (wkSet P w e.2.2.1) else w)
  else (wkV w, wkS w, wkN w, 4, wkA w, wkT w, wkC w, e.2.1)
/-! A task: kind, x, tries, since, token, until. A workflow: its program, events, where it stands, its task -/
abbrev Tsk : Type := Int32 × Int32 × Int32 × Int32 × Int32 × Int32
abbrev Flw : Type := Prg × List Evt × Wkr × Tsk
abbrev flP (f : Flw) : Prg := f.1
abbrev flE (f : Flw) : List Evt := f.2.1
abbrev flW (f : Flw) : Wkr := f.2.2.1
abbrev flT (f : Flw) : Tsk := f.2.2.2
/-- its origin -/
def flO (f : Flw) : Int32 := (evAt (flE f) 0).2.2.2
def tkOpen (t : Tsk) (k x now : Int32) : Tsk := (k, x, 1, now, 0, t.2.2.2.2.2)
def tkReady (t : Tsk) (n since : Int32) : Tsk := (t.1, t.2.1, n, since, 0, t.2.2.2.2.2)
def tkFree (t : Tsk) : Tsk := (t.1, t.2.1, t.2.2.1, t.2.2.2.1, 0, t.2.2.2.2.2)
def tkLease (t : Tsk) (k u : Int32) : Tsk := (t.1, t.2.1, t.2.2.1, t.2.2.2.1, k, u)
def flOpen (f : Flw) (P : Prg) (a x o : Int32) : Flw := (P, [(0, a, x, o)], (upf (fun _ => 0) 0 x, 0, 0, 5, 0, 0, 0, 0), tkFree (flT f))
def flTake (f : Flw) (e : Evt) (now : Int32) : Flw := (flP f, flE f ++ [e], wkTake (flP f) (flW f) e,
  if e.1 = 1 then tkOpen (flT f) e.2.1 e.2.2.1 now else if e.1 = 2 ∨ e.1 = 3 ∨ 10 ≤ e.1 then tkFree (flT f) else flT f)
def flRun (f : Flw) (now : Int32) : Option (Nat × Int32 × Int32) × Flw := ((wkRun (flP f) (flO f) now (flE f) 201 (flW f)).1, flP f, flE f, (wkRun (flP f) (flO f) now (flE f) 201 (flW f)).2, flT f)
def isMsg (f : Flw) (k : Nat) : Bool := decide (k = 6) || decide (k = 9) || (decide (10 ≤ k) && decide (flO f < 0))
/-! A shard: replicas, leader (-1: none), term, disks, how many workflows, these, the outbox (place, row, event), records tried -/
abbrev Shd : Type := Nat × Int32 × Nat × (Nat → Dk) × Nat × (Nat → Flw) × List (Nat × Nat × Nat) × Nat
abbrev shZ (h : Shd) : Nat := h.1
abbrev shL (h : Shd) : Int32 := h.2.1
abbrev shT (h : Shd) : Nat := h.2.2.1
abbrev shD (h : Shd) : Nat → Dk := h.2.2.2.1
abbrev shN (h : Shd) : Nat := h.2.2.2.2.1
abbrev shF (h : Shd) : Nat → Flw := h.2.2.2.2.2.1
abbrev shO (h : Shd) : List (Nat × Nat × Nat) := h.2.2.2.2.2.2.1
abbrev shQ (h : Shd) : Nat := h.2.2.2.2.2.2.2
def shSetD (h : Shd) (d : Nat → Dk) : Shd := (shZ h, shL h, shT h, d, shN h, shF h, shO h, shQ h)
def shSetF (h : Shd) (n : Nat) (f : Flw) : Shd := (shZ h, shL h, shT h, shD h, shN h, upf (shF h) n f, shO h, shQ h)
def shSetO (h : Shd) (o : List (Nat × Nat × Nat)) : Shd := (shZ h, shL h, shT h, shD h, shN h, shF h, o, shQ h)
def shTried (h : Shd) : Shd := (shZ h, shL h, shT h, shD h, shN h, shF h, shO h, shQ h + 1)
def shUps (h : Shd) : Nat := ((List.range (shZ h)).filter (fun r => dkU (shD h r))).length
def shMost (h : Shd) : Bool := decide (shZ h < 2 * shUps h)
def shLose (h : Shd) : Shd := (shZ h, -1, shT h, shD h, shN h, fun n => if n < shN h then (flP (shF h n), flE (shF h n), flW (shF h n), tkFree (flT (shF h n))) else shF h n, shO h, shQ h)
def shWorks (h : Shd) : Bool := decide (shL h ≠ -1)
def shLog (h : Shd) : List Rec := dkL (shD h (shL h).toNatClampNeg)
def shRecs (h : Shd) : Nat := if shL h = -1 then 0 else (shLog h).length
/-- a record is to be done -/
def shCommit (h : Shd) (k n : Nat) (a b c : Int32) : Bool × Shd :=
  let h := shTried h
  let r : Rec := (n, k, shT h, a, b, c)
  let l := (shL h).toNatClampNeg
  if shL h = -1 then (false, shLose h)
  else
    let d := upf (shD h) l (dkWrite (shD h l) r)
    if dkU (d l) = false then (false, shLose (shSetD h d))
    else
      let h := shSetD h (fun x => if x < shZ h ∧ x ≠ l then dkWrite (d x) r else d x)
      if shMost h then (true, h) else (false, shLose h)
/-- one event, or OVER in its place -/
def shHappen (now : Int32) (h : Shd) (n k : Nat) (a b o : Int32) : Bool × Shd :=
  let full := decide (k < 10) && decide (59 ≤ (flE (shF h n)).length)
  let e : Evt := if full then (12, -1, 0, 0) else (k, a, b, o)
  let p := shRecs h
  let q := shCommit h e.1 n e.2.1 e.2.2.1 e.2.2.2
  if q.1 = false then (false, q.2)
  else
    let f := flTake (shF q.2 n) e now
    let h := shSetF q.2 n f
    (true, if isMsg f e.1 then shSetO h (shO h ++ [(p, n, (flE f).length - 1)]) else h)
def shGoL (now : Int32) (n : Nat) : Nat → Option (Nat × Int32 × Int32) → Shd → Shd
  | 0, _, h => h
  | _ + 1, none, h => h
  | i + 1, some (k, a, b), h =>
    let q := shHappen now h n k a b 0
    if q.1 = false then q.2 else shGoL now n i (flRun (shF q.2 n) now).1 (shSetF q.2 n (flRun (shF q.2 n) now).2)
def shGo (now : Int32) (h : Shd) (n : Nat) : Shd := shGoL now n 60 (flRun (shF h n) now).1 (shSetF h n (flRun (shF h n) now).2)
def shBring (now : Int32) (h : Shd) (n k : Nat) (a b o : Int32) : Bool × Shd :=
  let q := shHappen now h n k a b o
  if q.1 = false then (false, q.2) else (true, shGo now q.2 n)
/-- a row is opened with the program that a names -/
def shOpen (vs : Nat → List Prg) (h : Shd) (n : Nat) (a x o : Int32) : Shd :=
  let v := a.toNatClampNeg / 8
  match (vs (a.toNatClampNeg % 8))[v]? with
  | none => h
  | some P => (shZ h, shL h, shT h, shD h, n + 1, upf (shF h) n (flOpen (shF h n) P a x o), shO h, shQ h)
def shBegin (vs : Nat → List Prg) (now : Int32) (h : Shd) (p : Nat) (x o : Int32) : Bool × Shd :=
  let n := shN h
  let a := Int32.ofNat (p + 8 * ((vs p).length - 1))
  let q := shCommit h 0 n a x o
  if q.1 = false then (false, q.2) else (true, shGo now (shOpen vs q.2 n a x o) n)
def shFail (now : Int32) (h : Shd) (n : Nat) : Bool × Shd :=
  let t := flT (shF h n)
  let k := t.2.2.1 + 1
  if 5 ≤ k then shBring now h n 3 (-1) 0 0
  else
    let since := now + (1 <<< ((k - 1) &&& 31))
    let q := shCommit h 15 n k since 0
    if q.1 = false then (false, q.2) else
      let f := shF q.2 n
      (true, shSetF q.2 n (flP f, flE f, flW f, tkReady (flT f) k since))
def shForget (h : Shd) (p : Nat) : Shd :=
  let q := shCommit h 14 0 (Int32.ofNat p) 0 0
  if q.1 = false then q.2 else shSetO q.2 ((shO q.2).filter (fun m => m.1 ≠ p))
/-! Elections -/
def shCand (h : Shd) : Int32 := (List.range (shZ h)).foldl (fun b r => if dkU (shD h r) = true ∧ (b = -1 ∨ dkAhead (shD h r) (shD h b.toNatClampNeg) = true) then Int32.ofNat r else b) (-1)
def shElect (h : Shd) : Bool × Shd :=
  let l := shCand h
  let h1 : Shd := (shZ h, l, shT h + 1, shD h, shN h, shF h, shO h, shQ h)
  let h2 := if l = -1 then h1 else shSetD h1 (fun x => if x < shZ h ∧ x ≠ l.toNatClampNeg ∧ dkU (shD h x) = true then dkAlike (shD h x) (shD h l.toNatClampNeg) else shD h x)
  shCommit h2 13 0 l 0 0
/-- a record of the leader's log, at its place, is read -/
def shRead (vs : Nat → List Prg) (now : Int32) (h : Shd) (p : Nat) (r : Rec) : Shd :=
  let n := rcN r
  if rcK r = 0 then shOpen vs h n (rcA r) (rcB r) (rcC r)
  else if rcK r = 14 then shSetO h ((shO h).filter (fun m => Int32.ofNat m.1 ≠ rcA r))
  else if rcK r = 15 then
    let f := shF h n
    shSetF h n (flP f, flE f, flW f, tkReady (flT f) (rcA r) (if now < rcB r then rcB r else now))
  else if rcK r ≠ 13 then
    let f := flTake (flRun (shF h n) now).2 (rcK r, rcA r, rcB r, rcC r) now
    let h1 := shSetF h n f
    if isMsg f (rcK r) then shSetO h1 (shO h1 ++ [(p, n, (flE f).length - 1)]) else h1
  else h
def shReads (vs : Nat → List Prg) (now : Int32) : Nat → List Rec → Shd → Shd
  | _, [], h => h
  | p, r :: rs, h => shReads vs now (p + 1) rs (shRead vs now h p r)
def shBuild (vs : Nat → List Prg) (now : Int32) (h : Shd) : Shd :=
  let h1 := shReads vs now 0 (shLog h) (shZ h, shL h, shT h, shD h, 0, shF h, [], shQ h)
  (shZ h1, shL h1, shT h1, shD h1, shN h1, fun n => if n < shN h1 then (flRun (shF h1 n) now).2 else shF h1 n, shO h1, shQ h1)
/-- those of the rows that can go on do so, from the n-th on, k of them -/
def shAll (now : Int32) : Nat → Nat → Shd → Shd
  | 0, _, h => h
  | k + 1, n, h => if shWorks h = false then h else shAll now k (n + 1) (shGo now h n)
def shElect1 (vs : Nat → List Prg) (now : Int32) (h : Shd) : Shd :=
  let q := shElect h
  if q.1 = false then q.2 else
    let b := shBuild vs now q.2
    shAll now (shN b) 0 b
def shSettle (vs : Nat → List Prg) (now : Int32) : Nat → Shd → Shd
  | 0, h => h
  | i + 1, h => if shWorks h = false ∧ shMost h = true then shSettle vs now i (shElect1 vs now h) else h
/-! Time -/
def shFire (vs : Nat → List Prg) (now : Int32) : Nat → Nat → Shd → Shd
  | 0, _, h => h
  | k + 1, n, h => if n < shN h ∧ shWorks h = true then
      (if wkP (flW (shF h n)) = 1 ∧ wkA (flW (shF h n)) ≤ now then shFire vs now k (n + 1) (shSettle vs now 6 (shBring now h n 5 now 0 0).2) else shFire vs now k (n + 1) h) else h
def shLapse (vs : Nat → List Prg) (now : Int32) : Nat → Nat → Shd → Shd
  | 0, _, h => h
  | k + 1, n, h => if n < shN h ∧ shWorks h = true then
      (if wkP (flW (shF h n)) = 0 ∧ 0 < (flT (shF h n)).2.2.2.2.1 ∧ (flT (shF h n)).2.2.2.2.2 ≤ now then shLapse vs now k (n + 1) (shSettle vs now 6 (shFail now h n).2) else shLapse vs now k (n + 1) h) else h
def shTime (vs : Nat → List Prg) (now : Int32) (h : Shd) : Shd := shLapse vs now 17 0 (shFire vs now 17 0 h)
/-! Power -/
def shRenew (h : Shd) (z : Nat) : Bool × Shd :=
  if (List.range (shZ h)).any (fun r => decide (0 < (dkL (shD h r)).length)) = true ∨ shT h ≠ 0 then (false, h)
  else (true, z, 0, shT h, fun x => if x < 5 then ([], true, -1, 0, dkR (shD h x)) else shD h x, shN h, shF h, shO h, shQ h)
def shRaise (h : Shd) (r : Nat) : Shd :=
  let d : Dk := (dkL (shD h r), true, dkF (shD h r), 0, dkR (shD h r))
  shSetD h (upf (shD h) r (if shWorks h then dkAlike d (shD h (shL h).toNatClampNeg) else d))
def shLower (h : Shd) (r : Nat) : Shd :=
  let d : Dk := (dkL (shD h r), false, -1, dkT (shD h r), dkR (shD h r))
  let h1 := shSetD h (upf (shD h) r d)
  if shL h = Int32.ofNat r ∨ shMost h1 = false then shLose h1 else h1
