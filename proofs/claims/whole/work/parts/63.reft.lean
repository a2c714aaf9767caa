theorem plc_le {c : Nat} : ∀ {es : List Evt} {k : Nat}, c < cntK 6 es → ∃ d, plcOf 6 es c = some d := fun {es k} => by
  induction es generalizing c with
  | nil => intro h; exact absurd h (Nat.not_lt_zero _)
  | cons e r ih =>
    intro h
    unfold cntK at h
    rw [List.filter_cons] at h
    unfold plcOf
    by_cases c6 : e.1 = 6
    · rw [if_pos (decide_eq_true c6), List.length_cons] at h
      rw [if_pos c6]
      cases c with
      | zero => exact ⟨0, rfl⟩
      | succ c =>
        obtain ⟨d, hd⟩ := ih (c := c) (by unfold cntK; omega)
        exact ⟨d + 1, by show (plcOf 6 r c).map (· + 1) = _; rw [hd]; rfl⟩
    · rw [if_neg (by simp [c6])] at h
      rw [if_neg c6]
      obtain ⟨d, hd⟩ := ih (c := c) h
      exact ⟨d + 1, by rw [hd]; rfl⟩
theorem cnt_take_le (es : List Evt) (k : Nat) : cntK 6 (es.take k) ≤ cntK 6 es := by
  unfold cntK
  exact (List.Sublist.filter _ (List.take_sublist k es)).length_le
/-- what comes behind a delivery's answer -/
theorem dlR_01 {vs : Nat → List Prg} {now : Int32} {TX : List (Nat × Nat × Nat × Prg)} {K : Nat} {h : Hp} {W : Wld} {r : Bool × Wld} {x : Option (Int32 × Hp)} (d : dlR vs now TX K h W r x) : dlR vs now TX K h W r (x.bind (fun q => if q.1 = 0 then some ((0 : Int32), q.2) else some (1, q.2))) := by
  obtain ⟨h1, e, a, b⟩ := d
  refine ⟨h1, ?_, a, b⟩
  rw [e, bind_some9]
  show (if (if r.1 = true then (1 : Int32) else 0) = 0 then some ((0 : Int32), h1) else some (1, h1)) = some (if r.1 = true then 1 else 0, h1)
  cases r.1 with
  | false => rw [if_neg (fun z => Bool.noConfusion z), if_pos rfl]
  | true => rw [if_pos rfl, if_neg (by decide)]
theorem dlR_B {vs : Nat → List Prg} {now : Int32} {TX : List (Nat × Nat × Nat × Prg)} {K : Nat} {h : Hp} {W : Wld} {r : Bool × Wld} {x : Option (Int32 × Hp)} (d : dlR vs now TX K h W r x) : dlR vs now TX K h W r (x.bind (fun q => ck (isB q.1) (some (q.1, q.2)))) := by
  obtain ⟨h1, e, a, b⟩ := d
  refine ⟨h1, ?_, a, b⟩
  rw [e, bind_some9]
  show ck (isB (if r.1 = true then 1 else 0)) (some ((if r.1 = true then 1 else 0), h1)) = _
  cases r.1 with
  | false => exact ck_yes isB_0
  | true => exact ck_yes isB_1
/-- to a parent: a signal or an end -/
theorem w_delivers_132 {vs : Nat → List Prg} {now : Int32} {TX : List (Nat × Nat × Nat × Prg)} {K : Nat} {h : Hp} {W : Wld} (R : RW vs now TX K h W) (hK : K ≤ 1600) {s n k i : Nat} (hs : s < 4) (hn : n < shN (W s)) (hk : k < (flE (shF (W s) n)).length) (ho : rpO (flE (shF (W s) n)) < 0) (hi : i < 60000) {kd : Nat} (hkd : kd < 16) (ea : zE h 635 i = (evAt (flE (shF (W s) n)) k).2.1) (eb : zE h 636 i = (evAt (flE (shF (W s) n)) k).2.2.1) :
    dlR vs now TX K h W (if shL (W (((-1 - rpO (flE (shF (W s) n))) / 64).toNatClampNeg % 4)) = -1 then (false, W) else if ((-1 - rpO (flE (shF (W s) n))) / 64).toNatClampNeg / 4 < shN (W (((-1 - rpO (flE (shF (W s) n))) / 64).toNatClampNeg % 4)) then (if kd = 9 then wdSig vs now W (((-1 - rpO (flE (shF (W s) n))) / 64).toNatClampNeg % 4) (((-1 - rpO (flE (shF (W s) n))) / 64).toNatClampNeg / 4) (evAt (flE (shF (W s) n)) k).2.2.1 (orgOf s n k) else wdTell vs now W (((-1 - rpO (flE (shF (W s) n))) / 64).toNatClampNeg % 4) (((-1 - rpO (flE (shF (W s) n))) / 64).toNatClampNeg / 4) ((-1 - rpO (flE (shF (W s) n))) - (-1 - rpO (flE (shF (W s) n))) / 64 * 64) (evAt (flE (shF (W s) n)) k).2.1) else (true, W)) (f_X11_delivers_132 616 (nI (16 * s + n)) (nI k) (nI i) (nI kd) h) := by
  obtain ⟨G, tb, bs⟩ := R.base hK
  obtain ⟨E, ev, rf, tk, l1, l5, hn16⟩ := R.row hs hn
  have H := G.1
  have ep := w_parent H (by omega : 16 * s + n < 64) ev l1 (by omega)
  have eor := w_origin H (by omega : 16 * s + n < 64) ev l1 (by omega)
  rw [if_pos ho] at ep
  obtain ⟨v, v1, v2⟩ := org_nat ho
  have fr := w_from (h := h) hs hn16 k
  have ni : (nI i).toNatClampNeg = i := zi_nat (by omega)
  generalize flE (shF (W s) n) = es at *
  have ed : (-1 - rpO es) / 64 = nI (v / 64) := by rw [v2, show (64 : Int32) = nI 64 from rfl, zi_div v1 (by omega) (by omega)]
  have em : (-1 - rpO es) - (-1 - rpO es) / 64 * 64 = nI (v % 64) := by rw [v2, show (64 : Int32) = nI 64 from rfl, zi_mod v1 (by omega) (by omega)]
  have vb : v / 64 < 1000000000 := by omega
  rw [ed] at ep
  rw [em, ed, zi_nat (by omega)]
  generalize v / 64 = p at *
  have ht : p % 4 < 4 := Nat.mod_lt _ (by decide)
  obtain ⟨b1, b2, b3, -⟩ := bs (p % 4) ht
  have m4 : nI p - nI p / (4 : Int32) * 4 = nI (p % 4) := by rw [show (4 : Int32) = nI 4 from rfl, zi_mod (by omega) (by omega) (by omega)]
  have d4 : nI p / (4 : Int32) = nI (p / 4) := by rw [show (4 : Int32) = nI 4 from rfl, zi_div (by omega) (by omega) (by omega)]
  have nt : (nI (p % 4)).toNatClampNeg = p % 4 := zi_nat (by omega)
  have b1' : zE h 645 (nI (p % 4)).toNatClampNeg = shL (W (p % 4)) := by rw [nt]; exact b1
  have isf : f_X11_isFlow 616 (nI p) h = some (if p / 4 < shN (W (p % 4)) then 1 else 0, h) := by
    have g0 : ¬ nI p < 0 := zi_neg (by omega)
    have q64 : (64 : Int32) ≤ nI p ↔ 64 ≤ p := zi_le (a := 64) (by omega) (by omega)
    have qn : nI (shN (W (p % 4))) ≤ nI (p / 4) ↔ shN (W (p % 4)) ≤ p / 4 := zi_le (by omega) (by omega)
    unfold f_X11_isFlow
    rw [if_neg g0]
    by_cases c64 : 64 ≤ p
    · rw [if_pos (q64.mpr c64), if_neg (by omega)]
    · rw [if_neg (fun z => c64 (q64.mp z)), ck_yes (RF_o H), RF_1239 H, ck_yes (RO_647 H), RL_647 H, m4, ck_yes (zi_in (by omega : p % 4 < 4) (by omega)), d4]
      have b2' : zE h 647 (nI (p % 4)).toNatClampNeg = nI (shN (W (p % 4))) := by rw [nt]; exact b2
      by_cases cn : p / 4 < shN (W (p % 4))
      · rw [if_pos cn, if_neg (by rw [b2']; exact fun z => absurd (qn.mp z) (by omega))]
      · rw [if_neg cn, if_pos (by rw [b2']; exact qn.mpr (by omega))]
  unfold f_X11_delivers_132
  rw [ck_yes (RF_o H), ep, bind_some9]
  show dlR vs now TX K h W _ (ck (isO h 616 12) (ck (isO h (zR h 1237 616) 22) (ck (inR (nI p - nI p / (4 : Int32) * 4) (zL h (zR h 1237 616))) (if zE h (zR h 1237 616) (nI p - nI p / (4 : Int32) * 4).toNatClampNeg = -1 then some ((0 : Int32), h) else (f_X11_isFlow 616 (nI p) h).bind (fun q44 => if q44.1 = 0 then f_X11_delivers_172 (-1) 616 (nI (16 * s + n)) (nI k) (nI i) (nI kd) q44.2 else (f_X11_placeOf (nI p) q44.2).bind (fun q46 => f_X11_delivers_172 q46.1 616 (nI (16 * s + n)) (nI k) (nI i) (nI kd) q46.2))))))
  rw [ck_yes (RF_o H), RF_1237 H, ck_yes (RO_645 H), RL_645 H, m4, ck_yes (zi_in (by omega : p % 4 < 4) (by omega))]
  by_cases cl : shL (W (p % 4)) = -1
  · rw [if_pos cl, if_pos (show zE h 645 (nI (p % 4)).toNatClampNeg = -1 by rw [b1']; exact cl)]
    exact dlR.stay R rfl
  · rw [if_neg cl, if_neg (show ¬ zE h 645 (nI (p % 4)).toNatClampNeg = -1 by rw [b1']; exact cl), isf, bind_some9]
    have q9 : nI kd = (9 : Int32) ↔ kd = 9 := zi_eq (b := 9) (by omega) (by omega)
    have sig : ∀ f : Int32, f_X11_delivers_172 f 616 (nI (16 * s + n)) (nI k) (nI i) (nI kd) h = if kd = 9 then (f_X11_signals_ 616 f (evAt es k).2.2.1 (orgOf s n k) h).bind (fun q => ck (isB q.1) (some (q.1, q.2))) else if f = -1 then some (1, h) else (f_X11_tells 616 f (nI (v % 64)) (evAt es k).2.1 h).bind (fun q => if q.1 = 0 then some ((0 : Int32), q.2) else some (1, q.2)) := fun f => by
      unfold f_X11_delivers_172
      by_cases c9 : kd = 9
      · rw [if_pos c9, if_pos (q9.mpr c9), ck_yes (RF_o H), RF_1228 H, ck_yes (RO_636 H), RL_636 H, ck_yes (zi_in (by omega : i < 60000) (by omega)), fr, bind_some9]
        show ck (isO h 616 12) ((f_X11_signals_ 616 f (zE h 636 (nI i).toNatClampNeg) (orgOf s n k) h).bind _) = _
        rw [ck_yes (RF_o H), ni, eb]
      · rw [if_neg c9, if_neg (fun z => c9 (q9.mp z))]
        by_cases cf : f = -1
        · rw [if_pos cf, if_pos cf]
        · rw [if_neg cf, if_neg cf, ck_yes (RF_o H), eor, bind_some9]
          show ck (isO h 616 12) (ck (isO h (zR h 1227 616) 22) (ck (inR (nI i) (zL h (zR h 1227 616))) ((f_X11_tells 616 f ((-1 - rpO es) - (-1 - rpO es) / 64 * 64) (zE h (zR h 1227 616) (nI i).toNatClampNeg) h).bind _))) = _
          rw [ck_yes (RF_o H), RF_1227 H, ck_yes (RO_635 H), RL_635 H, ck_yes (zi_in (by omega : i < 60000) (by omega)), em, ni, ea]
    by_cases cn : p / 4 < shN (W (p % 4))
    · rw [if_pos cn]
      show dlR vs now TX K h W _ (if (if p / 4 < shN (W (p % 4)) then (1 : Int32) else 0) = 0 then _ else (f_X11_placeOf (nI p) h).bind (fun q46 => f_X11_delivers_172 q46.1 616 (nI (16 * s + n)) (nI k) (nI i) (nI kd) q46.2))
      rw [if_pos cn, if_neg (show ¬ (1 : Int32) = 0 by decide)]
      have epl : f_X11_placeOf (nI p) h = some (nI (16 * (p % 4) + p / 4), h) := by
        unfold f_X11_placeOf
        rw [m4, d4, zi_16]
      rw [epl, bind_some9]
      show dlR vs now TX K h W _ (f_X11_delivers_172 (nI (16 * (p % 4) + p / 4)) 616 (nI (16 * s + n)) (nI k) (nI i) (nI kd) h)
      rw [sig]
      by_cases c9 : kd = 9
      · rw [if_pos c9, if_pos c9]
        exact dlR_B (w_signals_W R hK ht cl cn _ _)
      · rw [if_neg c9, if_neg c9, if_neg (zi_ne1 (by omega))]
        exact dlR_01 (w_tells R hK ht cl cn _ _)
    · rw [if_neg cn]
      show dlR vs now TX K h W _ (if (if p / 4 < shN (W (p % 4)) then (1 : Int32) else 0) = 0 then f_X11_delivers_172 (-1) 616 (nI (16 * s + n)) (nI k) (nI i) (nI kd) h else _)
      rw [if_neg cn, if_pos (show (0 : Int32) = 0 from rfl), sig]
      refine dlR.stay R ?_
      by_cases c9 : kd = 9
      · rw [if_pos c9]
        have : f_X11_signals_ 616 (-1) (evAt es k).2.2.1 (orgOf s n k) h = some (1, h) := by
          unfold f_X11_signals_
          rw [if_pos rfl]
        rw [this, bind_some9]
        exact ck_yes isB_1
      · rw [if_neg c9, if_pos rfl]
        rfl
theorem w_delivers {vs : Nat → List Prg} {now : Int32} {TX : List (Nat × Nat × Nat × Prg)} {K : Nat} {h : Hp} {W : Wld} (R : RW vs now TX K h W) (hvs : vsOK vs) (hdg : vsDg vs) (hK : K ≤ 1600) (lt : ltAt h vs TX) {s n k : Nat} (hs : s < 4) (hl : shL (W s) ≠ -1) (hn : n < shN (W s)) (hk : k < (flE (shF (W s) n)).length) (hmsg : bkMsg (flE (shF (W s) n)) (evAt (flE (shF (W s) n)) k).1 = true) : dlR vs now TX K h W (wdSend vs now W s n k) (f_X11_delivers 616 (nI (16 * s + n)) (nI k) h) := by
  obtain ⟨G, tb, bs⟩ := R.base hK
  obtain ⟨E, ev, rf, tk, l1, l5, hn16⟩ := R.row hs hn
  have H := G.1
  obtain ⟨C, R1, R2, R3⟩ := R s hs
  have hI := R1.2.1.1
  obtain ⟨-, hes, -, l4, -⟩ := hI.len hn
  have hz := hI.2.1.2.2 n (by rw [← hI.2.1.1]; exact hn)
  have pdg : prgDg (flP (shF (W s) n)) := hdg _ (Nat.mod_lt _ (by decide)) _ (prgOf_mem hz.2.1)
  obtain ⟨i, rn, rt, hi, hrn, hKd, hiE, hrec⟩ := ev.at hk
  have hi6 : i < 60000 := by omega
  have eE := w_event H (by omega : 16 * s + n < 64) (by omega) hiE
  have eK : f_X11_kindOf 616 (nI i) h = some (nI (evAt (flE (shF (W s) n)) k).1, h) := w_kind H hi6 hrec hKd hrn
  have rA : zE h 635 i = (evAt (flE (shF (W s) n)) k).2.1 := hrec.2.2.1
  have rB : zE h 636 i = (evAt (flE (shF (W s) n)) k).2.2.1 := hrec.2.2.2.1
  have ni : (nI i).toNatClampNeg = i := zi_nat (by omega)
  have q6 : nI (evAt (flE (shF (W s) n)) k).1 = (6 : Int32) ↔ (evAt (flE (shF (W s) n)) k).1 = 6 := zi_eq (b := 6) (by omega) (by omega)
  have q9 : nI (evAt (flE (shF (W s) n)) k).1 = (9 : Int32) ↔ (evAt (flE (shF (W s) n)) k).1 = 9 := zi_eq (b := 9) (by omega) (by omega)
  have d16 := zi_16d hs hn16
  unfold wdSend f_X11_delivers
  simp only []
  rw [ck_yes (RF_o H), eE, bind_some9]
  show dlR vs now TX K h W _ (ck (isO h 616 12) ((f_X11_kindOf 616 (nI i) h).bind _))
  rw [ck_yes (RF_o H), eK, bind_some9]
  by_cases c6 : (evAt (flE (shF (W s) n)) k).1 = 6
  · rw [if_pos c6]
    obtain ⟨d, d1, d2⟩ := kid_digit pdg l4 hk c6
    have ec := w_childOf H (by omega : 16 * s + n < 64) (by omega : totQ W ≤ 60000) ev (Nat.le_of_lt hk)
    show dlR vs now TX K h W _ (if nI (evAt (flE (shF (W s) n)) k).1 = 6 then ck (isO h 616 12) ((f_X11_childOf 616 (nI (16 * s + n)) (nI k) h).bind _) else _)
    rw [if_pos (q6.mpr c6), ck_yes (RF_o H), ec, bind_some9]
    show dlR vs now TX K h W _ (ck (isO h 616 12) (ck (isO h (zR h 1227 616) 22) (ck (inR (nI i) (zL h (zR h 1227 616))) (ck (isO h (zR h 1228 616) 22) (ck (inR (nI i) (zL h (zR h 1228 616))) ((f_X11_bears 616 (nI (16 * s + n)) (nI (cntK 6 ((flE (shF (W s) n)).take k))) (zE h (zR h 1227 616) (nI i).toNatClampNeg) (zE h (zR h 1228 616) (nI i).toNatClampNeg) h).bind _))))))
    rw [ck_yes (RF_o H), RF_1227 H, ck_yes (RO_635 H), RL_635 H, ck_yes (zi_in (by omega : i < 60000) (by omega)), RF_1228 H, ck_yes (RO_636 H), RL_636 H, ck_yes (zi_in (by omega : i < 60000) (by omega)), ni, rA, rB, d2]
    exact dlR_B (w_bears R hvs hK lt hs hl hn hk d1 d2)
  · rw [if_neg c6]
    show dlR vs now TX K h W _ (if nI (evAt (flE (shF (W s) n)) k).1 = 6 then _ else if nI (evAt (flE (shF (W s) n)) k).1 = 9 then ck (isO h 616 12) (ck (isO h (zR h 1227 616) 22) (ck (inR (nI i) (zL h (zR h 1227 616))) (if zE h (zR h 1227 616) (nI i).toNatClampNeg < 0 then f_X11_delivers_132 616 (nI (16 * s + n)) (nI k) (nI i) (nI (evAt (flE (shF (W s) n)) k).1) h else (f_X11_programOf 616 (nI (16 * s + n)) (zE h (zR h 1227 616) (nI i).toNatClampNeg) h).bind _))) else f_X11_delivers_132 616 (nI (16 * s + n)) (nI k) (nI i) (nI (evAt (flE (shF (W s) n)) k).1) h)
    rw [if_neg (show ¬ nI (evAt (flE (shF (W s) n)) k).1 = 6 from fun z => c6 (q6.mp z))]
    by_cases c9 : (evAt (flE (shF (W s) n)) k).1 = 9
    · rw [if_pos (q9.mpr c9), ck_yes (RF_o H), RF_1227 H, ck_yes (RO_635 H), RL_635 H, ck_yes (zi_in (by omega : i < 60000) (by omega))]
      have rA' : zE h 635 (nI i).toNatClampNeg = (evAt (flE (shF (W s) n)) k).2.1 := by rw [ni]; exact rA
      rcases sent_ok l4 hk c9 with ⟨a1, a2⟩ | ⟨c, a1, a2⟩
      · have neg : (evAt (flE (shF (W s) n)) k).2.1 < 0 := by rw [a1]; decide
        rw [if_neg (show ¬ ((evAt (flE (shF (W s) n)) k).1 = 9 ∧ 0 ≤ (evAt (flE (shF (W s) n)) k).2.1) from fun z => absurd neg (Int32.not_lt.mpr z.2)), if_pos (show zE h 635 (nI i).toNatClampNeg < 0 by rw [rA']; exact neg)]
        exact w_delivers_132 R hK hs hn hk a2 hi6 hKd rA rB
      · have cle := cnt_take_le (flE (shF (W s) n)) k
        have c60 : cntK 6 (flE (shF (W s) n)) ≤ 60 := Nat.le_trans (List.length_filter_le _ _) hes
        obtain ⟨d, hd⟩ := plc_le (es := flE (shF (W s) n)) (k := k) (by omega : c < cntK 6 (flE (shF (W s) n)))
        obtain ⟨pd1, pd2⟩ := plc_in 6 hd
        obtain ⟨dd, e1, e2⟩ := kid_digit pdg l4 pd1 pd2
        have ge : ¬ (evAt (flE (shF (W s) n)) k).2.1 < 0 := by rw [a2]; exact zi_neg (by omega)
        have nc : (nI c).toNatClampNeg = c := zi_nat (by omega)
        have kp : kidP (flE (shF (W s) n)) c = dd := by
          unfold kidP
          rw [hd]
          show (evAt (flE (shF (W s) n)) d).2.1.toNatClampNeg = dd
          rw [e2, zi_nat (by omega)]
        have pr := w_programOf H (by omega : 16 * s + n < 64) (by omega : totQ W ≤ 60000) ev hd
        rw [e2] at pr
        rw [if_pos (show (evAt (flE (shF (W s) n)) k).1 = 9 ∧ 0 ≤ (evAt (flE (shF (W s) n)) k).2.1 from ⟨c9, Int32.not_lt.mp ge⟩), if_neg (show ¬ zE h 635 (nI i).toNatClampNeg < 0 by rw [rA']; exact ge), rA', a2, nc, kp, pr, bind_some9]
        have ht : (s + dd) % 4 < 4 := Nat.mod_lt _ (by decide)
        have ex1 : nI s + nI dd - (nI s + nI dd) / (4 : Int32) * 4 = nI ((s + dd) % 4) := by rw [zi_add]; exact zi_m4 (by omega)
        obtain ⟨b1, b2, b3, -⟩ := bs ((s + dd) % 4) ht
        have wo := w_withOrigin R hK ht (orgOf s n c)
        have fr1 := w_from (h := h) hs hn16 c
        have fr2 := w_from (h := h) hs hn16 k
        generalize htt : (s + dd) % 4 = t at *
        have nt : (nI t).toNatClampNeg = t := zi_nat (by omega)
        have b1' : zE h 645 (nI t).toNatClampNeg = shL (W t) := by rw [nt]; exact b1
        unfold bh
        show dlR vs now TX K h W _ ((fun x12 => ck (isO h 616 12) (ck (isO h (zR h 1237 616) 22) (ck (inR x12 (zL h (zR h 1237 616))) (if zE h (zR h 1237 616) x12.toNatClampNeg = -1 then some ((0 : Int32), h) else ck (isO h (zR h 1227 616) 22) (ck (inR (nI i) (zL h (zR h 1227 616))) ((f_X11_from (nI (16 * s + n)) (zE h (zR h 1227 616) (nI i).toNatClampNeg) h).bind (fun q19 => ck (isO q19.2 616 12) ((f_X11_withOrigin 616 x12 q19.1 q19.2).bind (fun q20 => ck (isO q20.2 616 12) (ck (isO q20.2 (zR q20.2 1228 616) 22) (ck (inR (nI i) (zL q20.2 (zR q20.2 1228 616))) ((f_X11_from (nI (16 * s + n)) (nI k) q20.2).bind (fun q25 => ck (isO q25.2 616 12) ((f_X11_signals_ 616 q20.1 (zE q20.2 (zR q20.2 1228 616) (nI i).toNatClampNeg) q25.1 q25.2).bind (fun q26 => if q26.1 = 0 then some ((0 : Int32), q26.2) else some (1, q26.2)))))))))))))))) (nI (16 * s + n) / 16 + nI dd - (nI (16 * s + n) / 16 + nI dd) / 4 * 4))
        rw [d16, ex1]
        show dlR vs now TX K h W _ (ck (isO h 616 12) (ck (isO h (zR h 1237 616) 22) (ck (inR (nI t) (zL h (zR h 1237 616))) (if zE h (zR h 1237 616) (nI t).toNatClampNeg = -1 then some ((0 : Int32), h) else ck (isO h (zR h 1227 616) 22) (ck (inR (nI i) (zL h (zR h 1227 616))) ((f_X11_from (nI (16 * s + n)) (zE h (zR h 1227 616) (nI i).toNatClampNeg) h).bind _))))))
        rw [ck_yes (RF_o H), RF_1237 H, ck_yes (RO_645 H), RL_645 H, ck_yes (zi_in (by omega : t < 4) (by omega))]
        by_cases cl : shL (W t) = -1
        · rw [if_pos cl, if_pos (show zE h 645 (nI t).toNatClampNeg = -1 by rw [b1']; exact cl)]
          exact dlR.stay R rfl
        · rw [if_neg cl, if_neg (show ¬ zE h 645 (nI t).toNatClampNeg = -1 by rw [b1']; exact cl), RF_1227 H, ck_yes (RO_635 H), RL_635 H, ck_yes (zi_in (by omega : i < 60000) (by omega)), rA', a2, fr1, bind_some9]
          show dlR vs now TX K h W _ (ck (isO h 616 12) ((f_X11_withOrigin 616 (nI t) (orgOf s n c) h).bind _))
          rw [ck_yes (RF_o H), wo, bind_some9]
          show dlR vs now TX K h W _ (ck (isO h 616 12) (ck (isO h (zR h 1228 616) 22) (ck (inR (nI i) (zL h (zR h 1228 616))) ((f_X11_from (nI (16 * s + n)) (nI k) h).bind _))))
          rw [ck_yes (RF_o H), RF_1228 H, ck_yes (RO_636 H), RL_636 H, ck_yes (zi_in (by omega : i < 60000) (by omega)), fr2, bind_some9]
          show dlR vs now TX K h W _ (ck (isO h 616 12) ((f_X11_signals_ 616 (plcI t (shOrg (W t) (orgOf s n c))) (zE h 636 (nI i).toNatClampNeg) (orgOf s n k) h).bind _))
          rw [ck_yes (RF_o H), ni, rB]
          cases hog : shOrg (W t) (orgOf s n c) with
          | none =>
            refine dlR.stay R ?_
            have : f_X11_signals_ 616 (-1) (evAt (flE (shF (W s) n)) k).2.2.1 (orgOf s n k) h = some (1, h) := by
              unfold f_X11_signals_
              rw [if_pos rfl]
            show (f_X11_signals_ 616 (-1) (evAt (flE (shF (W s) n)) k).2.2.1 (orgOf s n k) h).bind _ = _
            rw [this, bind_some9]
            rfl
          | some m =>
            exact dlR_01 (w_signals_W R hK ht cl (shOrg_some hog).1 _ _)
    · rw [if_neg (show ¬ ((evAt (flE (shF (W s) n)) k).1 = 9 ∧ 0 ≤ (evAt (flE (shF (W s) n)) k).2.1) from fun z => c9 z.1), if_neg (show ¬ nI (evAt (flE (shF (W s) n)) k).1 = 9 from fun z => c9 (q9.mp z))]
      have o0 : rpO (flE (shF (W s) n)) < 0 := by
        unfold bkMsg at hmsg
        rw [decide_eq_false c6, decide_eq_false c9, Bool.false_or, Bool.false_or, Bool.and_eq_true] at hmsg
        exact of_decide_eq_true hmsg.2
      exact w_delivers_132 R hK hs hn hk o0 hi6 hKd rA rB
/-! TIME, IN THE REFERENCE -/
theorem upf_again (W : Wld) (s : Nat) (u v : Shd) : upf (upf W s u) s v = upf W s v := upf_upf W s u v
theorem totQ_up_le {W : Wld} {s : Nat} (hs : s < 4) {u : Shd} (h : shQ (W s) ≤ shQ u) : totQ W ≤ totQ (upf W s u) := by
  have := (othQ_up W hs u).2
  have := othQ_add W hs
  omega
theorem w_timers_2 {vs : Nat → List Prg} {now : Int32} {TX : List (Nat × Nat × Nat × Prg)} {K s : Nat} (hK : K ≤ 1600) (hs : s < 4) : ∀ (k n fuel : Nat) (h : Hp) (W : Wld), RW vs now TX K h W → n + k = 17 → k < fuel → ∃ h1, f_X11_timers_2 fuel 616 (nI s) (nI n) h = f_X11_timers_72 616 (nI s) h1 ∧ RW vs now TX K h1 (upf W s (shFire vs now k n (W s))) ∧ frx (wdF (totQ W)) h h1
  | k, n, 0, h, W, _, _, hf => absurd hf (Nat.not_lt_zero _)
  | 0, n, fuel + 1, h, W, R, hn, hf => by
    obtain ⟨G, tb, bs⟩ := R.base hK
    obtain ⟨b1, b2, b3, -⟩ := bs s hs
    have H := G.1
    have nx : (nI s).toNatClampNeg = s := zi_nat (by omega)
    have gx : ¬ nI s < 0 := zi_neg (by omega)
    have lx : ¬ 4 ≤ s := by omega
    have c : nI (shN (W s)) ≤ nI n := (zi_le (by omega) (by omega)).mpr (by omega)
    refine ⟨h, ?_, ?_, frx.rf h⟩
    · simp only [f_X11_timers_2, o10, o00, bh, isO, inR, ck_true, bind_some9, Nat.reduceLeDiff, Nat.reduceEqDiff, and_self, and_true, true_and, false_and, and_false, not_false_eq_true, not_true_eq_false, or_self, or_false, false_or, if_true, if_false, reduceIte, RF_o H, RF_1237 H, RO_645 H, RL_645 H, RF_1239 H, RO_647 H, RL_647 H, RF_1243 H, RO_651 H, RL_651 H, RF_1251 H, RO_659 H, RL_659 H, zR_pE, zT_pE, zL_pE, zn_pE, zE_pE, zI_pE, zR_pI, zT_pI, zL_pI, zn_pI, zE_pI, zI_pI, nx, gx, lx, b2, c]
    · show RW vs now TX K h (upf W s (W s))
      rw [upf_same]; exact R
  | k + 1, n, fuel + 1, h, W, R, hn, hf => by
    obtain ⟨G, tb, bs⟩ := R.base hK
    obtain ⟨b1, b2, b3, -⟩ := bs s hs
    have H := G.1
    have en := G.2.2.1
    have nx : (nI s).toNatClampNeg = s := zi_nat (by omega)
    have gx : ¬ nI s < 0 := zi_neg (by omega)
    have lx : ¬ 4 ≤ s := by omega
    have eF : shFire vs now (k + 1) n (W s) = (if n < shN (W s) ∧ shWorks (W s) = true then (if dueF now (W s) n then shFire vs now k (n + 1) (stl vs now (shBring now (W s) n 5 now 0 0).2) else shFire vs now k (n + 1) (W s)) else W s) := rfl
    have stop : (¬ (n < shN (W s) ∧ shWorks (W s) = true)) → f_X11_timers_2 (fuel + 1) 616 (nI s) (nI n) h = f_X11_timers_72 616 (nI s) h → ∃ h1, f_X11_timers_2 (fuel + 1) 616 (nI s) (nI n) h = f_X11_timers_72 616 (nI s) h1 ∧ RW vs now TX K h1 (upf W s (shFire vs now (k + 1) n (W s))) ∧ frx (wdF (totQ W)) h h1 := fun hc e => ⟨h, e, by rw [eF, if_neg hc, upf_same]; exact R, frx.rf h⟩
    by_cases cn : n < shN (W s)
    · have c : ¬ nI (shN (W s)) ≤ nI n := zi_le0 (by omega) (by omega) (by omega)
      by_cases cl : shL (W s) = -1
      · refine stop (fun z => (works_iff (W s)).mp z.2 cl) ?_
        have d := eq_true (b1.trans cl)
        simp only [f_X11_timers_2, o10, o00, bh, isO, inR, ck_true, bind_some9, Nat.reduceLeDiff, Nat.reduceEqDiff, and_self, and_true, true_and, false_and, and_false, not_false_eq_true, not_true_eq_false, or_self, or_false, false_or, if_true, if_false, reduceIte, RF_o H, RF_1237 H, RO_645 H, RL_645 H, RF_1239 H, RO_647 H, RL_647 H, RF_1243 H, RO_651 H, RL_651 H, RF_1251 H, RO_659 H, RL_659 H, zR_pE, zT_pE, zL_pE, zn_pE, zE_pE, zI_pE, zR_pI, zT_pI, zL_pI, zn_pI, zE_pI, zI_pI, nx, gx, lx, b2, c, d]
      · have d := eq_false (fun z => cl (b1.symm.trans z))
        obtain ⟨E, ev, rf, tk, l1, l5, hn16⟩ := R.row hs cn
        have nw : (nI (16 * s + n)).toNatClampNeg = 16 * s + n := zi_nat (by omega)
        have gw : ¬ nI (16 * s + n) < 0 := zi_neg (by omega)
        have lw : ¬ 64 ≤ 16 * s + n := by omega
        have e51 := rf.1.1
        have p5 := rf.1.2
        have q1 : nI (wkP (rpR (flP (shF (W s) n)) (flE (shF (W s) n)))) = (1 : Int32) ↔ wkP (rpR (flP (shF (W s) n)) (flE (shF (W s) n))) = 1 := zi_eq (b := 1) (by omega) (by omega)
        rw [eF, if_pos ⟨cn, (works_iff (W s)).mpr cl⟩]
        by_cases c1 : wkP (rpR (flP (shF (W s) n)) (flE (shF (W s) n))) = 1
        · have d1 := eq_true (q1.mpr c1)
          have e59 : zE h 659 (16 * s + n) = wkA (flW (shF (W s) n)) := by rw [l5]; exact rf.2.2.2.1 c1
          by_cases cd : wkA (flW (shF (W s) n)) ≤ now
          · have dd := eq_false (Int32.not_lt.mpr cd)
            rw [if_pos ⟨by rw [l5]; exact c1, cd⟩]
            obtain ⟨h1, e1, R1, f1⟩ := w_comes_W (k := 5) (a := now) (b := 0) (o := 0) R hK hs cl cn (fired_ok c1)
            have e1 : f_X11_comes 616 (nI (16 * s + n)) 5 now 0 0 h = some (if (shBring now (W s) n 5 now 0 0).1 = true then 1 else 0, h1) := e1
            obtain ⟨h2, a1, a2, a3⟩ := w_timers_2 hK hs k (n + 1) fuel h1 _ R1 (by omega) (by omega)
            have es : (upf W s (stl vs now (shBring now (W s) n 5 now 0 0).2)) s = stl vs now (shBring now (W s) n 5 now 0 0).2 := if_pos rfl
            have R1' : RW vs now TX K h1 (upf W s (stl vs now (shBring now (W s) n 5 now 0 0).2)) := R1
            have a2 : RW vs now TX K h2 (upf (upf W s (stl vs now (shBring now (W s) n 5 now 0 0).2)) s (shFire vs now k (n + 1) ((upf W s (stl vs now (shBring now (W s) n 5 now 0 0).2)) s))) := a2
            rw [es, upf_again] at a2
            have hq : shQ (W s) ≤ shQ (stl vs now (shBring now (W s) n 5 now 0 0).2) := Nat.le_trans (by have := shQ_bring now (W s) n 5 now 0 0; omega) (shQ_stl vs now _)
            refine ⟨h2, ?_, a2, f1.trans (a3.mono (wdF_le (totQ_up_le hs hq)))⟩
            rw [← a1]
            simp only [f_X11_timers_2, f_X11_timers_66, o10, o00, bh, isO, inR, ck_true, bind_some9, Nat.reduceLeDiff, Nat.reduceEqDiff, and_self, and_true, true_and, false_and, and_false, not_false_eq_true, not_true_eq_false, or_self, or_false, false_or, if_true, if_false, reduceIte, RF_o H, RF_1237 H, RO_645 H, RL_645 H, RF_1239 H, RO_647 H, RL_647 H, RF_1243 H, RO_651 H, RL_651 H, RF_1251 H, RO_659 H, RL_659 H, zR_pE, zT_pE, zL_pE, zn_pE, zE_pE, zI_pE, zR_pI, zT_pI, zL_pI, zn_pI, zE_pI, zI_pI, nx, gx, lx, b2, c, d, zi_16, nw, gw, lw, e51, d1, e59, en, dd, e1, zi_one]
          · have dd := eq_true (Int32.not_le.mp cd)
            rw [if_neg (fun z => cd z.2)]
            obtain ⟨h2, a1, a2, a3⟩ := w_timers_2 hK hs k (n + 1) fuel h W R (by omega) (by omega)
            refine ⟨h2, ?_, a2, a3⟩
            rw [← a1]
            simp only [f_X11_timers_2, f_X11_timers_66, o10, o00, bh, isO, inR, ck_true, bind_some9, Nat.reduceLeDiff, Nat.reduceEqDiff, and_self, and_true, true_and, false_and, and_false, not_false_eq_true, not_true_eq_false, or_self, or_false, false_or, if_true, if_false, reduceIte, RF_o H, RF_1237 H, RO_645 H, RL_645 H, RF_1239 H, RO_647 H, RL_647 H, RF_1243 H, RO_651 H, RL_651 H, RF_1251 H, RO_659 H, RL_659 H, zR_pE, zT_pE, zL_pE, zn_pE, zE_pE, zI_pE, zR_pI, zT_pI, zL_pI, zn_pI, zE_pI, zI_pI, nx, gx, lx, b2, c, d, zi_16, nw, gw, lw, e51, d1, e59, en, dd, zi_one]
        · have d1 := eq_false (fun z => c1 (q1.mp z))
          rw [if_neg (fun z => c1 (by rw [← l5]; exact z.1))]
          obtain ⟨h2, a1, a2, a3⟩ := w_timers_2 hK hs k (n + 1) fuel h W R (by omega) (by omega)
          refine ⟨h2, ?_, a2, a3⟩
          rw [← a1]
          simp only [f_X11_timers_2, f_X11_timers_66, o10, o00, bh, isO, inR, ck_true, bind_some9, Nat.reduceLeDiff, Nat.reduceEqDiff, and_self, and_true, true_and, false_and, and_false, not_false_eq_true, not_true_eq_false, or_self, or_false, false_or, if_true, if_false, reduceIte, RF_o H, RF_1237 H, RO_645 H, RL_645 H, RF_1239 H, RO_647 H, RL_647 H, RF_1243 H, RO_651 H, RL_651 H, RF_1251 H, RO_659 H, RL_659 H, zR_pE, zT_pE, zL_pE, zn_pE, zE_pE, zI_pE, zR_pI, zT_pI, zL_pI, zn_pI, zE_pI, zI_pI, nx, gx, lx, b2, c, d, zi_16, nw, gw, lw, e51, d1, zi_one]
    · have c : nI (shN (W s)) ≤ nI n := (zi_le (by omega) (by omega)).mpr (by omega)
      refine stop (fun z => cn z.1) ?_
      simp only [f_X11_timers_2, o10, o00, bh, isO, inR, ck_true, bind_some9, Nat.reduceLeDiff, Nat.reduceEqDiff, and_self, and_true, true_and, false_and, and_false, not_false_eq_true, not_true_eq_false, or_self, or_false, false_or, if_true, if_false, reduceIte, RF_o H, RF_1237 H, RO_645 H, RL_645 H, RF_1239 H, RO_647 H, RL_647 H, RF_1243 H, RO_651 H, RL_651 H, RF_1251 H, RO_659 H, RL_659 H, zR_pE, zT_pE, zL_pE, zn_pE, zE_pE, zI_pE, zR_pI, zT_pI, zL_pI, zn_pI, zE_pI, zI_pI, nx, gx, lx, b2, c]
theorem tk_pos {tk : Nat} {W : Wld} (T : WdT tk W) (htk : tk < 1000000) {s n : Nat} (hs : s < 4) (hn : n < shN (W s)) : 0 < flK (shF (W s) n) ↔ flK (shF (W s) n) ≠ 0 := by
  rcases T.1 s n hs hn with z | ⟨t, t1, t2, z⟩
  · rw [z]; exact ⟨fun q => absurd q (by decide), fun q => absurd rfl q⟩
  · rw [z]
    refine ⟨fun q => pos_ne q, fun _ => ?_⟩
    exact (zi_lt (a := 0) (by omega) (by omega)).mpr (by omega)
theorem w_fails_W {vs : Nat → List Prg} {now : Int32} {TX : List (Nat × Nat × Nat × Prg)} {K : Nat} {h : Hp} {W : Wld} (R : RW vs now TX K h W) (hK : K ≤ 1600) {t m : Nat} (ht : t < 4) (hl : shL (W t) ≠ -1) (hm : m < shN (W t)) (h0 : wkP (flW (shF (W t) m)) = 0) (hk : flK (shF (W t) m) ≠ 0) : dlR vs now TX K h W ((shFail now (W t) m).1, upf W t (stl vs now (shFail now (W t) m).2)) (f_X11_fails 616 (nI (16 * t + m)) h) := by
  obtain ⟨C, R1, R2, R3⟩ := R t ht
  obtain ⟨h1, e1, A⟩ := w_fails ht R1 hl (R2 hl) hm h0 hk
  obtain ⟨E, bI, bG, bP, -⟩ := shFail_I now R1.2.1.1 hl hm h0 hk
  obtain ⟨RW1, f1⟩ := R.act2 hK ht A bI (fun z => calm_br (R2 hl) bP z) (bG.2.2.2.1)
  exact ⟨h1, e1, RW1, f1.mono (fpS_wd ht)⟩
theorem WdT_up {vs : Nat → List Prg} {tk : Nat} {W : Wld} {s : Nat} {u : Shd} (T : WdT tk W) (a : tkLe (W s) u) : WdT tk (upf W s u) := WdT_le T (fun x hx => by
  by_cases c : x = s
  · rw [show upf W s u x = u from if_pos c, c]; exact a
  · rw [show upf W s u x = W x from if_neg c]; exact fun n hn => Or.inr ⟨hn, rfl⟩)
theorem w_timers_74 {vs : Nat → List Prg} {now : Int32} {TX : List (Nat × Nat × Nat × Prg)} {K s tk : Nat} (hK : K ≤ 1600) (hs : s < 4) (htk : tk < 1000000) : ∀ (k n fuel : Nat) (h : Hp) (W : Wld), RW vs now TX K h W → WdT tk W → n + k = 17 → k < fuel → ∃ h1, f_X11_timers_74 fuel 616 (nI s) (nI n) h = some h1 ∧ RW vs now TX K h1 (upf W s (shLapse vs now k n (W s))) ∧ frx (wdF (totQ W)) h h1
  | k, n, 0, h, W, _, _, _, hf => absurd hf (Nat.not_lt_zero _)
  | 0, n, fuel + 1, h, W, R, T, hn, hf => by
    obtain ⟨G, tb, bs⟩ := R.base hK
    obtain ⟨b1, b2, b3, -⟩ := bs s hs
    have H := G.1
    have nx : (nI s).toNatClampNeg = s := zi_nat (by omega)
    have gx : ¬ nI s < 0 := zi_neg (by omega)
    have lx : ¬ 4 ≤ s := by omega
    have c : nI (shN (W s)) ≤ nI n := (zi_le (by omega) (by omega)).mpr (by omega)
    refine ⟨h, ?_, ?_, frx.rf h⟩
    · simp only [f_X11_timers_74, o10, o00, bh, isO, inR, ck_true, bind_some9, Nat.reduceLeDiff, Nat.reduceEqDiff, and_self, and_true, true_and, false_and, and_false, not_false_eq_true, not_true_eq_false, or_self, or_false, false_or, if_true, if_false, reduceIte, RF_o H, RF_1237 H, RO_645 H, RL_645 H, RF_1239 H, RO_647 H, RL_647 H, RF_1252 H, RO_660 H, RL_660 H, RF_1254 H, RO_662 H, RL_662 H, zR_pE, zT_pE, zL_pE, zn_pE, zE_pE, zI_pE, zR_pI, zT_pI, zL_pI, zn_pI, zE_pI, zI_pI, nx, gx, lx, b2, c]
    · show RW vs now TX K h (upf W s (W s))
      rw [upf_same]; exact R
  | k + 1, n, fuel + 1, h, W, R, T, hn, hf => by
    obtain ⟨G, tb, bs⟩ := R.base hK
    obtain ⟨b1, b2, b3, -⟩ := bs s hs
    have H := G.1
    have en := G.2.2.1
    have nx : (nI s).toNatClampNeg = s := zi_nat (by omega)
    have gx : ¬ nI s < 0 := zi_neg (by omega)
    have lx : ¬ 4 ≤ s := by omega
    have eF : shLapse vs now (k + 1) n (W s) = (if n < shN (W s) ∧ shWorks (W s) = true then (if dueL now (W s) n then shLapse vs now k (n + 1) (stl vs now (shFail now (W s) n).2) else shLapse vs now k (n + 1) (W s)) else W s) := rfl
    have stop : (¬ (n < shN (W s) ∧ shWorks (W s) = true)) → f_X11_timers_74 (fuel + 1) 616 (nI s) (nI n) h = some h → ∃ h1, f_X11_timers_74 (fuel + 1) 616 (nI s) (nI n) h = some h1 ∧ RW vs now TX K h1 (upf W s (shLapse vs now (k + 1) n (W s))) ∧ frx (wdF (totQ W)) h h1 := fun hc e => ⟨h, e, by rw [eF, if_neg hc, upf_same]; exact R, frx.rf h⟩
    by_cases cn : n < shN (W s)
    · have c : ¬ nI (shN (W s)) ≤ nI n := zi_le0 (by omega) (by omega) (by omega)
      by_cases cl : shL (W s) = -1
      · refine stop (fun z => (works_iff (W s)).mp z.2 cl) ?_
        have d := eq_true (b1.trans cl)
        simp only [f_X11_timers_74, o10, o00, bh, isO, inR, ck_true, bind_some9, Nat.reduceLeDiff, Nat.reduceEqDiff, and_self, and_true, true_and, false_and, and_false, not_false_eq_true, not_true_eq_false, or_self, or_false, false_or, if_true, if_false, reduceIte, RF_o H, RF_1237 H, RO_645 H, RL_645 H, RF_1239 H, RO_647 H, RL_647 H, RF_1252 H, RO_660 H, RL_660 H, RF_1254 H, RO_662 H, RL_662 H, zR_pE, zT_pE, zL_pE, zn_pE, zE_pE, zI_pE, zR_pI, zT_pI, zL_pI, zn_pI, zE_pI, zI_pI, nx, gx, lx, b2, c, d]
      · have d := eq_false (fun z => cl (b1.symm.trans z))
        obtain ⟨E, ev, rf, tk9, l1, l5, hn16⟩ := R.row hs cn
        have nw : (nI (16 * s + n)).toNatClampNeg = 16 * s + n := zi_nat (by omega)
        have gw : ¬ nI (16 * s + n) < 0 := zi_neg (by omega)
        have lw : ¬ 64 ≤ 16 * s + n := by omega
        have e60 := tk9.1
        have pos := tk_pos T htk hs cn
        rw [eF, if_pos ⟨cn, (works_iff (W s)).mpr cl⟩]
        by_cases c2 : wkP (flW (shF (W s) n)) = 0 ∧ flK (shF (W s) n) ≠ 0
        · rw [if_pos c2.1, if_neg c2.2] at e60
          have d2 := eq_true e60
          have e62 := ((tk9.2 c2.1).2 c2.2).2
          by_cases cd : (flT (shF (W s) n)).2.2.2.2.2 ≤ now
          · have dd := eq_false (Int32.not_lt.mpr cd)
            rw [if_pos ⟨c2.1, pos.mpr c2.2, cd⟩]
            obtain ⟨h1, e1, R1, f1⟩ := w_fails_W R hK hs cl cn c2.1 c2.2
            have e1 : f_X11_fails 616 (nI (16 * s + n)) h = some (if (shFail now (W s) n).1 = true then 1 else 0, h1) := e1
            have R1 : RW vs now TX K h1 (upf W s (stl vs now (shFail now (W s) n).2)) := R1
            obtain ⟨C, RC, RC2, RC3⟩ := R s hs
            obtain ⟨E9, -, gr9⟩ := fail_S now ⟨RC.2.1.1, RC2, RC3⟩ cl cn c2.1 c2.2
            obtain ⟨h2, a1, a2, a3⟩ := w_timers_74 (tk := tk) hK hs htk k (n + 1) fuel h1 (upf W s (stl vs now (shFail now (W s) n).2)) R1 (WdT_up (vs := vs) T gr9.2.2.2.2.2.2) (by omega) (by omega)
            rw [show (upf W s (stl vs now (shFail now (W s) n).2)) s = stl vs now (shFail now (W s) n).2 from if_pos rfl, upf_again] at a2
            have hq : shQ (W s) ≤ shQ (stl vs now (shFail now (W s) n).2) := Nat.le_trans (by have := shQ_fail now (W s) n; omega) (shQ_stl vs now _)
            refine ⟨h2, ?_, a2, f1.trans (a3.mono (wdF_le (totQ_up_le hs hq)))⟩
            rw [← a1]
            simp only [f_X11_timers_74, f_X11_timers_131, o10, o00, bh, isO, inR, ck_true, bind_some9, Nat.reduceLeDiff, Nat.reduceEqDiff, and_self, and_true, true_and, false_and, and_false, not_false_eq_true, not_true_eq_false, or_self, or_false, false_or, if_true, if_false, reduceIte, RF_o H, RF_1237 H, RO_645 H, RL_645 H, RF_1239 H, RO_647 H, RL_647 H, RF_1252 H, RO_660 H, RL_660 H, RF_1254 H, RO_662 H, RL_662 H, zR_pE, zT_pE, zL_pE, zn_pE, zE_pE, zI_pE, zR_pI, zT_pI, zL_pI, zn_pI, zE_pI, zI_pI, nx, gx, lx, b2, c, d, zi_16, nw, gw, lw, d2, e62, en, dd, e1, zi_one]
          · have dd := eq_true (Int32.not_le.mp cd)
            rw [if_neg (fun z => cd z.2.2)]
            obtain ⟨h2, a1, a2, a3⟩ := w_timers_74 (tk := tk) hK hs htk k (n + 1) fuel h W R T (by omega) (by omega)
            refine ⟨h2, ?_, a2, a3⟩
            rw [← a1]
            simp only [f_X11_timers_74, f_X11_timers_131, o10, o00, bh, isO, inR, ck_true, bind_some9, Nat.reduceLeDiff, Nat.reduceEqDiff, and_self, and_true, true_and, false_and, and_false, not_false_eq_true, not_true_eq_false, or_self, or_false, false_or, if_true, if_false, reduceIte, RF_o H, RF_1237 H, RO_645 H, RL_645 H, RF_1239 H, RO_647 H, RL_647 H, RF_1252 H, RO_660 H, RL_660 H, RF_1254 H, RO_662 H, RL_662 H, zR_pE, zT_pE, zL_pE, zn_pE, zE_pE, zI_pE, zR_pI, zT_pI, zL_pI, zn_pI, zE_pI, zI_pI, nx, gx, lx, b2, c, d, zi_16, nw, gw, lw, d2, e62, en, dd, zi_one]
        · have d2 : (zE h 660 (16 * s + n) = 2) = False := eq_false (fun z => by
            rw [e60] at z
            by_cases c0 : wkP (flW (shF (W s) n)) = 0
            · rw [if_pos c0] at z
              by_cases ck : flK (shF (W s) n) = 0
              · rw [if_pos ck] at z; exact absurd z (by decide)
              · exact c2 ⟨c0, ck⟩
            · rw [if_neg c0] at z; exact absurd z (by decide))
          rw [if_neg (fun z => c2 ⟨z.1, pos.mp z.2.1⟩)]
          obtain ⟨h2, a1, a2, a3⟩ := w_timers_74 (tk := tk) hK hs htk k (n + 1) fuel h W R T (by omega) (by omega)
          refine ⟨h2, ?_, a2, a3⟩
          rw [← a1]
          simp only [f_X11_timers_74, f_X11_timers_131, o10, o00, bh, isO, inR, ck_true, bind_some9, Nat.reduceLeDiff, Nat.reduceEqDiff, and_self, and_true, true_and, false_and, and_false, not_false_eq_true, not_true_eq_false, or_self, or_false, false_or, if_true, if_false, reduceIte, RF_o H, RF_1237 H, RO_645 H, RL_645 H, RF_1239 H, RO_647 H, RL_647 H, RF_1252 H, RO_660 H, RL_660 H, RF_1254 H, RO_662 H, RL_662 H, zR_pE, zT_pE, zL_pE, zn_pE, zE_pE, zI_pE, zR_pI, zT_pI, zL_pI, zn_pI, zE_pI, zI_pI, nx, gx, lx, b2, c, d, zi_16, nw, gw, lw, d2, zi_one]
    · have c : nI (shN (W s)) ≤ nI n := (zi_le (by omega) (by omega)).mpr (by omega)
      refine stop (fun z => cn z.1) ?_
      simp only [f_X11_timers_74, o10, o00, bh, isO, inR, ck_true, bind_some9, Nat.reduceLeDiff, Nat.reduceEqDiff, and_self, and_true, true_and, false_and, and_false, not_false_eq_true, not_true_eq_false, or_self, or_false, false_or, if_true, if_false, reduceIte, RF_o H, RF_1237 H, RO_645 H, RL_645 H, RF_1239 H, RO_647 H, RL_647 H, RF_1252 H, RO_660 H, RL_660 H, RF_1254 H, RO_662 H, RL_662 H, zR_pE, zT_pE, zL_pE, zn_pE, zE_pE, zI_pE, zR_pI, zT_pI, zL_pI, zn_pI, zE_pI, zI_pI, nx, gx, lx, b2, c]
theorem w_timers {vs : Nat → List Prg} {now : Int32} {TX : List (Nat × Nat × Nat × Prg)} {K s tk : Nat} (hK : K ≤ 1600) (hs : s < 4) (htk : tk < 1000000) {h : Hp} {W : Wld} (R : RW vs now TX K h W) (T : WdT tk W) : ∃ h1, f_X11_timers 616 (nI s) h = some h1 ∧ RW vs now TX K h1 (upf W s (shTime vs now (W s))) ∧ frx (wdF (totQ W)) h h1 := by
  obtain ⟨h1, a1, a2, a3⟩ := w_timers_2 hK hs 17 0 fz h W R (by omega) (fz_big (by omega))
  obtain ⟨C, RC, RC2, RC3⟩ := R s hs
  obtain ⟨E9, -, gr9⟩ := shFire_S now 17 0 (W s) C ⟨RC.2.1.1, RC2, RC3⟩
  obtain ⟨h2, b1, b2, b3⟩ := w_timers_74 (tk := tk) hK hs htk 17 0 fz h1 _ a2 (WdT_up (vs := vs) T gr9.2.2.2.2.2.2) (by omega) (fz_big (by omega))
  rw [show (upf W s (shFire vs now 17 0 (W s))) s = shFire vs now 17 0 (W s) from if_pos rfl, upf_again] at b2
  refine ⟨h2, ?_, b2, a3.trans (b3.mono (wdF_le (totQ_up_le hs (shFire_q vs now 17 0 (W s)).1)))⟩
  unfold f_X11_timers
  exact (congrArg (fun z => f_X11_timers_2 fz 616 (nI s) z h) zi_zero).trans (a1.trans ((congrArg (fun z => f_X11_timers_74 fz 616 (nI s) z h1) zi_zero).trans b1))
