/-! THE PURE HEAP: (next number, slots used), kind, length, int fields, int elements, reference fields, reference elements, long fields, long elements. A thing's number is 8 or more; below are things from outside. A reference is 0 (null) or the number. -/
abbrev Hp : Type := (Nat × Nat) × (Nat → Nat) × (Nat → Nat) × (Nat → Nat → Int32) × (Nat → Nat → Int32) × (Nat → Nat → Nat) × (Nat → Nat → Nat) × (Nat → Nat → Int64) × (Nat → Nat → Int64)
def zn (h : Hp) : Nat := h.1.1
def zs (h : Hp) : Nat := h.1.2
def zT (h : Hp) : Nat → Nat := h.2.1
def zL (h : Hp) : Nat → Nat := h.2.2.1
def zI (h : Hp) : Nat → Nat → Int32 := h.2.2.2.1
def zE (h : Hp) : Nat → Nat → Int32 := h.2.2.2.2.1
def zR (h : Hp) : Nat → Nat → Nat := h.2.2.2.2.2.1
def zQ (h : Hp) : Nat → Nat → Nat := h.2.2.2.2.2.2.1
def zJ (h : Hp) : Nat → Nat → Int64 := h.2.2.2.2.2.2.2.1
def zX (h : Hp) : Nat → Nat → Int64 := h.2.2.2.2.2.2.2.2
def up2 {α : Type} (f : Nat → Nat → α) (a b : Nat) (v : α) : Nat → Nat → α := fun x y => if x = a ∧ y = b then v else f x y
def pI (h : Hp) (f a : Nat) (v : Int32) : Hp := (h.1, h.2.1, h.2.2.1, up2 (zI h) f a v, zE h, zR h, zQ h, zJ h, zX h)
def pE (h : Hp) (a j : Nat) (v : Int32) : Hp := (h.1, h.2.1, h.2.2.1, zI h, up2 (zE h) a j v, zR h, zQ h, zJ h, zX h)
def pR (h : Hp) (f a : Nat) (v : Nat) : Hp := (h.1, h.2.1, h.2.2.1, zI h, zE h, up2 (zR h) f a v, zQ h, zJ h, zX h)
def pQ (h : Hp) (a j : Nat) (v : Nat) : Hp := (h.1, h.2.1, h.2.2.1, zI h, zE h, zR h, up2 (zQ h) a j v, zJ h, zX h)
def pJ (h : Hp) (f a : Nat) (v : Int64) : Hp := (h.1, h.2.1, h.2.2.1, zI h, zE h, zR h, zQ h, up2 (zJ h) f a v, zX h)
def pX (h : Hp) (a j : Nat) (v : Int64) : Hp := (h.1, h.2.1, h.2.2.1, zI h, zE h, zR h, zQ h, zJ h, up2 (zX h) a j v)
/-- a new thing of kind t, with n places: its fields and elements are 0 and null -/
def pN (h : Hp) (t n : Nat) : Hp := ((zn h + 1, zs h + n), va_up (zT h) (zn h) t, va_up (zL h) (zn h) n, (fun f a => if a = zn h then 0 else zI h f a), va_up (zE h) (zn h) (fun _ => 0), (fun f a => if a = zn h then 0 else zR h f a), va_up (zQ h) (zn h) (fun _ => 0), (fun f a => if a = zn h then 0 else zJ h f a), va_up (zX h) (zn h) (fun _ => 0))
/-- a reference as a value -/
def zrf : Nat → Value
  | 0 => .null
  | r + 1 => .ref (r + 1)
theorem zrf_pos {c : Nat} (hc : c ≠ 0) : zrf c = .ref c := by
  cases c with
  | zero => exact absurd rfl hc
  | succ r => rfl
/-- what field f of the thing a holds -/
def zfv (h : Hp) (f a : Nat) : Value := if kf f = 0 then .int (zI h f a) else if kf f = 2 then .long (zJ h f a) else zrf (zR h f a)
/-- what place j of the array a, of kind t, holds -/
def zev (h : Hp) (t a j : Nat) : Value := if t < 24 then .int (zE h a j) else if t = 24 then .long (zX h a j) else zrf (zQ h a j)
/-! The ground: the law's start, its tables' numbers, things from outside -/
abbrev Gd : Type := State × (Nat → ClassId) × (Nat → Nat → Nat) × (Nat → ClassId) × (Nat → Nat)
abbrev g0 (G : Gd) : State := G.1
abbrev gC (G : Gd) : Nat → ClassId := G.2.1
abbrev gI (G : Gd) : Nat → Nat → Nat := G.2.2.1
abbrev gY (G : Gd) : Nat → ClassId := G.2.2.2.1
abbrev gX (G : Gd) : Nat → Nat := G.2.2.2.2
/-- the address of a thing -/
def zad (G : Gd) (r : Nat) : Nat := if r < 8 then gX G r else (g0 G).heap.size + (r - 8)
/-- a value as the machine has it -/
def zcv (G : Gd) (v : Value) : Value := match v with
  | .ref r => .ref (zad G r)
  | w => w
theorem zcv_int (G : Gd) (x : Int32) : zcv G (.int x) = .int x := rfl
theorem zcv_long (G : Gd) (x : Int64) : zcv G (.long x) = .long x := rfl
theorem zcv_null (G : Gd) : zcv G .null = .null := rfl
theorem zcv_ref (G : Gd) (r : Nat) : zcv G (.ref r) = .ref (zad G r) := rfl
theorem zcv_cat (G : Gd) (v : Value) : (zcv G v).category = v.category := by cases v <;> rfl
/-- the thing r lies in the machine's heap as the pure heap has it -/
def zAt (G : Gd) (h : Hp) (H : Heap) (r : Nat) : Prop :=
  (zT h r < 13 ∧ t_OB (zad G r) (gC G (zT h r)) (kN (zT h r)) (gI G (zT h r)) H (fun k => zcv G (zfv h (100 * zT h r + k) r))) ∨
  ((20 ≤ zT h r ∧ zT h r < 30) ∧ H[zad G r]? = some (arrV (gY G (zT h r)) (zL h r) (fun j => zcv G (zev h (zT h r) r j)))) ∨ zT h r = 40
def zHR (G : Gd) (h : Hp) (H : Heap) : Prop := 8 ≤ zn h ∧ H.size = (g0 G).heap.size + (zn h - 8) ∧ ∀ r, 8 ≤ r → r < zn h → zAt G h H r
/-- the addresses that may be written -/
def zA (G : Gd) : Nat → Prop := fun q => (g0 G).heap.size ≤ q
/-- things from outside: 1 the script, 2 the empty row of lists, 3 the class of rows of objects -/
def zEx (G : Gd) : Prop := ∃ a0 : Array Value, (Jvm.Cond.and given_1 narrow_1).before a0 (g0 G) = true ∧ (∀ w ∈ lw_tbl, w.before a0 (g0 G) = true) ∧ (Term.static "java/util/ArrayList" "DEFAULTCAPACITY_EMPTY_ELEMENTDATA" "[Ljava/lang/Object;").eval a0 (g0 G) none [] (g0 G) = some (.ref (gX G 2)) ∧ va_Mi "[Ljava/lang/Object;" (gX G 3) (g0 G)
/-- what holds at the law's start -/
def zOK (G : Gd) : Prop := (∃ a0, ∀ w ∈ lw_tbl, w.before a0 (g0 G) = true) ∧ (∀ i, i < 13 → u_Kn (g0 G) (kR i) (kT i) (kN i) (gC G i) (gI G i)) ∧ (∀ t, 20 ≤ t → t < 30 → ArrOfT (g0 G) (gY G t) (kA t) ∧ va_RA (g0 G) (gY G t) (kA t)) ∧ (∀ q, q < 3 → gX G q < (g0 G).heap.size) ∧ zEx G
/-- a state behind it -/
def zEn (G : Gd) (s : State) : Prop := (g0 G).WarmedH s.vm ∧ (g0 G).heap.size ≤ s.heap.size ∧ ∀ q, q < (g0 G).heap.size → s.heap[q]? = (g0 G).heap[q]?
theorem zEn.word {G : Gd} {s : State} {args : Array Value} (hO : zOK G) (hE : zEn G s) {w : Cond} (hw : w ∈ lw_tbl) (hg : goodWord w = true) : w.before args s = true := by
  obtain ⟨⟨a0, h0⟩, -⟩ := hO
  exact word_at hE.1 (good_of_word hg) (h0 w hw)
theorem zEn.lay {G : Gd} {s : State} {args : Array Value} (hO : zOK G) (hE : zEn G s) {i : Nat} (hi : i < 13) : ∀ w ∈ u_ws (kR i) (kT i) (kN i), w.before args s = true := by
  intro w hw
  refine hE.word hO (k_in i hi w hw) ?_
  obtain ⟨k, -, rfl⟩ := List.mem_map.mp hw
  unfold u_lay
  split <;> rfl
theorem zEn.known {G : Gd} {s : State} (hO : zOK G) (hE : zEn G s) {i : Nat} (hi : i < 13) : u_Kn s (kR i) (kT i) (kN i) (gC G i) (gI G i) := u_Kn_moved hE.1.alike (hO.2.1 i hi)
theorem zEn.arr {G : Gd} {s : State} (hO : zOK G) (hE : zEn G s) {t : Nat} (h1 : 20 ≤ t) (h2 : t < 30) : ArrOfT s (gY G t) (kA t) ∧ va_RA s (gY G t) (kA t) := ⟨arrOfT_moved hE.1.alike (hO.2.2.1 t h1 h2).1, (hO.2.2.1 t h1 h2).2.moved hE.1.alike⟩
theorem zEn.on {G : Gd} {s U : State} {H : Heap} {locs : List Loc} (hE : zEn G s) (hS : va_S (zA G) s.heap H locs) (hU : U.heap = H) (hW : s.WarmedH U.vm) : zEn G U := by
  refine ⟨State.WarmedH.trans hE.1 hW, by rw [hU]; exact Nat.le_trans hE.2.1 hS.1, fun q hq => ?_⟩
  rw [hU, hS.2.1 q (Nat.lt_of_lt_of_le hq hE.2.1) (fun h => absurd hq (Nat.not_lt.mpr h))]
  exact hE.2.2 q hq
theorem zad_lt {G : Gd} {h : Hp} {H : Heap} (hH : zHR G h H) {r : Nat} (h8 : 8 ≤ r) (hr : r < zn h) : zad G r < H.size := by
  unfold zad
  rw [if_neg (by omega), hH.2.1]
  omega
theorem zad_A {G : Gd} {r : Nat} (h8 : 8 ≤ r) : zA G (zad G r) := by
  unfold zA zad
  rw [if_neg (by omega)]
  omega
theorem zad_inj {G : Gd} {r q : Nat} (h8 : 8 ≤ r) (h9 : 8 ≤ q) (h : zad G r = zad G q) : r = q := by
  unfold zad at h
  rw [if_neg (by omega), if_neg (by omega)] at h
  omega
theorem zad_new {G : Gd} {h : Hp} {H : Heap} (hH : zHR G h H) : zad G (zn h) = H.size := by
  have := hH.1
  unfold zad
  rw [if_neg (by omega), hH.2.1]
