/-! the branches of the law -/
theorem in5 {n SL j : Nat} (h : 5 * n + 5 ≤ SL) (hS : SL ≤ 2560) (hj : j < 5) : inR (nI (5 * n) + nI j) SL := by
  rw [zi_add]
  exact zi_in (by omega) (by omega)
section Br
variable {n : Nat} {SL : Nat} {xs : Nat → Int32} {K : KT} {l4 : Int32} {h : Hp}
theorem b_start (L : LSt n h) (hn : n < 512) (I1 : inR (l4 + (1 : Int32)) SL) (I2 : inR (l4 + (2 : Int32)) SL) (I3 : inR (l4 + (3 : Int32)) SL) (I4 : inR (l4 + (4 : Int32)) SL) : ∃ h2, lw3 SL xs K l4 h = K 1 8 616 671 (l4 + 5) h2 ∧ LSt (n + 1) h2 := by
  obtain ⟨vs, c, TX, KK, tk, T, fa, St, W, own, u, v, L⟩ := L
  obtain ⟨⟨C, R, X⟩, o, vv, ⟨⟨b1, b2, b3, b4, b5⟩, b6⟩, -⟩ := id L
  have o8 := C.1.2.1.1.1
  obtain ⟨h1, h2, x1, x2, x3, x4⟩ := L_step L (F10 := f_X10_start 8 (xs (l4 + (1 : Int32)).toNatClampNeg) (xs (l4 + (2 : Int32)).toNatClampNeg) (xs (l4 + (3 : Int32)).toNatClampNeg) h) (F11 := fun g => f_X11_start 616 (xs (l4 + (1 : Int32)).toNatClampNeg) (xs (l4 + (2 : Int32)).toNatClampNeg) (xs (l4 + (3 : Int32)).toNatClampNeg) g) (c_start vv.1 (by omega) R.S C.1 (xs (l4 + (1 : Int32)).toNatClampNeg) (xs (l4 + (2 : Int32)).toNatClampNeg) (xs (l4 + (3 : Int32)).toNatClampNeg)) (fun g R1 => w_start vv.1 (by omega) R1 (xs (l4 + (1 : Int32)).toNatClampNeg) (xs (l4 + (2 : Int32)).toNatClampNeg) (xs (l4 + (3 : Int32)).toNatClampNeg)) (by omega)
  have x3 : f_X11_start 616 (xs (l4 + (1 : Int32)).toNatClampNeg) (xs (l4 + (2 : Int32)).toNatClampNeg) (xs (l4 + (3 : Int32)).toNatClampNeg) h1 = _ := x3
  refine ⟨h2, ?_, x4⟩
  unfold lw3
  rw [ck_yes I1, ck_yes I2, ck_yes I3, ck_yes o8, x1, bind_some9]
  dsimp only
  rw [ck_yes I1, ck_yes I2, ck_yes I3, ck_yes x2, x3, bind_some9]
  dsimp only
  rw [if_pos rfl]
  rfl
theorem b_signal (L : LSt n h) (hn : n < 512) (I1 : inR (l4 + (1 : Int32)) SL) (I2 : inR (l4 + (2 : Int32)) SL) (I3 : inR (l4 + (3 : Int32)) SL) (I4 : inR (l4 + (4 : Int32)) SL) : ∃ h2, lw4 SL xs K l4 h = K 1 8 616 671 (l4 + 5) h2 ∧ LSt (n + 1) h2 := by
  obtain ⟨vs, c, TX, KK, tk, T, fa, St, W, own, u, v, L⟩ := L
  obtain ⟨⟨C, R, X⟩, o, vv, ⟨⟨b1, b2, b3, b4, b5⟩, b6⟩, -⟩ := id L
  have o8 := C.1.2.1.1.1
  obtain ⟨h1, h2, x1, x2, x3, x4⟩ := L_step L (F10 := f_X10_signal 8 (xs (l4 + (1 : Int32)).toNatClampNeg) (xs (l4 + (2 : Int32)).toNatClampNeg) (xs (l4 + (3 : Int32)).toNatClampNeg) h) (F11 := fun g => f_X11_signal 616 (xs (l4 + (1 : Int32)).toNatClampNeg) (xs (l4 + (2 : Int32)).toNatClampNeg) (xs (l4 + (3 : Int32)).toNatClampNeg) g) (c_signal vv.1 (by omega) R.S C.1 (xs (l4 + (1 : Int32)).toNatClampNeg) (xs (l4 + (2 : Int32)).toNatClampNeg) (xs (l4 + (3 : Int32)).toNatClampNeg)) (fun g R1 => w_signal (by omega) R1 (xs (l4 + (1 : Int32)).toNatClampNeg) (xs (l4 + (2 : Int32)).toNatClampNeg) (xs (l4 + (3 : Int32)).toNatClampNeg)) (by omega)
  have x3 : f_X11_signal 616 (xs (l4 + (1 : Int32)).toNatClampNeg) (xs (l4 + (2 : Int32)).toNatClampNeg) (xs (l4 + (3 : Int32)).toNatClampNeg) h1 = _ := x3
  refine ⟨h2, ?_, x4⟩
  unfold lw4
  rw [ck_yes I1, ck_yes I2, ck_yes I3, ck_yes o8, x1, bind_some9]
  dsimp only
  rw [ck_yes I1, ck_yes I2, ck_yes I3, ck_yes x2, x3, bind_some9]
  dsimp only
  rw [if_pos rfl]
  rfl
theorem b_cancel (L : LSt n h) (hn : n < 512) (I1 : inR (l4 + (1 : Int32)) SL) (I2 : inR (l4 + (2 : Int32)) SL) (I3 : inR (l4 + (3 : Int32)) SL) (I4 : inR (l4 + (4 : Int32)) SL) : ∃ h2, lw5 SL xs K l4 h = K 1 8 616 671 (l4 + 5) h2 ∧ LSt (n + 1) h2 := by
  obtain ⟨vs, c, TX, KK, tk, T, fa, St, W, own, u, v, L⟩ := L
  obtain ⟨⟨C, R, X⟩, o, vv, ⟨⟨b1, b2, b3, b4, b5⟩, b6⟩, -⟩ := id L
  have o8 := C.1.2.1.1.1
  obtain ⟨h1, h2, x1, x2, x3, x4⟩ := L_step L (F10 := f_X10_cancel 8 (xs (l4 + (1 : Int32)).toNatClampNeg) h) (F11 := fun g => f_X11_cancel 616 (xs (l4 + (1 : Int32)).toNatClampNeg) g) (c_cancel vv.1 (by omega) R.S C.1 (xs (l4 + (1 : Int32)).toNatClampNeg)) (fun g R1 => w_cancel (by omega) R1 (xs (l4 + (1 : Int32)).toNatClampNeg)) (by omega)
  have x3 : f_X11_cancel 616 (xs (l4 + (1 : Int32)).toNatClampNeg) h1 = _ := x3
  refine ⟨h2, ?_, x4⟩
  unfold lw5
  rw [ck_yes I1, ck_yes o8, x1, bind_some9]
  dsimp only
  rw [ck_yes I1, ck_yes x2, x3, bind_some9]
  dsimp only
  rw [if_pos rfl]
  rfl
theorem b_beat (L : LSt n h) (hn : n < 512) (I1 : inR (l4 + (1 : Int32)) SL) (I2 : inR (l4 + (2 : Int32)) SL) (I3 : inR (l4 + (3 : Int32)) SL) (I4 : inR (l4 + (4 : Int32)) SL) : ∃ h2, lw8 SL xs K l4 h = K 1 8 616 671 (l4 + 5) h2 ∧ LSt (n + 1) h2 := by
  obtain ⟨vs, c, TX, KK, tk, T, fa, St, W, own, u, v, L⟩ := L
  obtain ⟨⟨C, R, X⟩, o, vv, ⟨⟨b1, b2, b3, b4, b5⟩, b6⟩, -⟩ := id L
  have o8 := C.1.2.1.1.1
  obtain ⟨h1, h2, x1, x2, x3, x4⟩ := L_step L (F10 := f_X10_beat 8 (xs (l4 + (1 : Int32)).toNatClampNeg) h) (F11 := fun g => f_X11_beat 616 (xs (l4 + (1 : Int32)).toNatClampNeg) g) (c_beat R.S C.1 (xs (l4 + (1 : Int32)).toNatClampNeg)) (fun g R1 => w_beat (by omega) (by omega) R1 (xs (l4 + (1 : Int32)).toNatClampNeg)) (by omega)
  have x3 : f_X11_beat 616 (xs (l4 + (1 : Int32)).toNatClampNeg) h1 = _ := x3
  refine ⟨h2, ?_, x4⟩
  unfold lw8
  rw [ck_yes I1, ck_yes o8, x1, bind_some9]
  dsimp only
  rw [ck_yes I1, ck_yes x2, x3, bind_some9]
  dsimp only
  rw [if_pos rfl]
  rfl
theorem b_finish (L : LSt n h) (hn : n < 512) (I1 : inR (l4 + (1 : Int32)) SL) (I2 : inR (l4 + (2 : Int32)) SL) (I3 : inR (l4 + (3 : Int32)) SL) (I4 : inR (l4 + (4 : Int32)) SL) : ∃ h2, lw9 SL xs K l4 h = K 1 8 616 671 (l4 + 5) h2 ∧ LSt (n + 1) h2 := by
  obtain ⟨vs, c, TX, KK, tk, T, fa, St, W, own, u, v, L⟩ := L
  obtain ⟨⟨C, R, X⟩, o, vv, ⟨⟨b1, b2, b3, b4, b5⟩, b6⟩, -⟩ := id L
  have o8 := C.1.2.1.1.1
  obtain ⟨h1, h2, x1, x2, x3, x4⟩ := L_step L (F10 := f_X10_finish 8 (xs (l4 + (1 : Int32)).toNatClampNeg) (xs (l4 + (2 : Int32)).toNatClampNeg) h) (F11 := fun g => f_X11_finish 616 (xs (l4 + (1 : Int32)).toNatClampNeg) (xs (l4 + (2 : Int32)).toNatClampNeg) g) (c_finish vv.1 (by omega) R.S C.1 (xs (l4 + (1 : Int32)).toNatClampNeg) (xs (l4 + (2 : Int32)).toNatClampNeg)) (fun g R1 => w_finish (by omega) (by omega) R1 (xs (l4 + (1 : Int32)).toNatClampNeg) (xs (l4 + (2 : Int32)).toNatClampNeg)) (by omega)
  have x3 : f_X11_finish 616 (xs (l4 + (1 : Int32)).toNatClampNeg) (xs (l4 + (2 : Int32)).toNatClampNeg) h1 = _ := x3
  refine ⟨h2, ?_, x4⟩
  unfold lw9
  rw [ck_yes I1, ck_yes I2, ck_yes o8, x1, bind_some9]
  dsimp only
  rw [ck_yes I1, ck_yes I2, ck_yes x2, x3, bind_some9]
  dsimp only
  rw [if_pos rfl]
  rfl
theorem b_fail (L : LSt n h) (hn : n < 512) (I1 : inR (l4 + (1 : Int32)) SL) (I2 : inR (l4 + (2 : Int32)) SL) (I3 : inR (l4 + (3 : Int32)) SL) (I4 : inR (l4 + (4 : Int32)) SL) : ∃ h2, lw10 SL xs K l4 h = K 1 8 616 671 (l4 + 5) h2 ∧ LSt (n + 1) h2 := by
  obtain ⟨vs, c, TX, KK, tk, T, fa, St, W, own, u, v, L⟩ := L
  obtain ⟨⟨C, R, X⟩, o, vv, ⟨⟨b1, b2, b3, b4, b5⟩, b6⟩, -⟩ := id L
  have o8 := C.1.2.1.1.1
  obtain ⟨h1, h2, x1, x2, x3, x4⟩ := L_step L (F10 := f_X10_fail 8 (xs (l4 + (1 : Int32)).toNatClampNeg) h) (F11 := fun g => f_X11_fail 616 (xs (l4 + (1 : Int32)).toNatClampNeg) g) (c_failC vv.1 (by omega) R.S C.1 (xs (l4 + (1 : Int32)).toNatClampNeg)) (fun g R1 => w_fail (by omega) (by omega) R1 (xs (l4 + (1 : Int32)).toNatClampNeg)) (by omega)
  have x3 : f_X11_fail 616 (xs (l4 + (1 : Int32)).toNatClampNeg) h1 = _ := x3
  refine ⟨h2, ?_, x4⟩
  unfold lw10
  rw [ck_yes I1, ck_yes o8, x1, bind_some9]
  dsimp only
  rw [ck_yes I1, ck_yes x2, x3, bind_some9]
  dsimp only
  rw [if_pos rfl]
  rfl
theorem b_task (L : LSt n h) (hn : n < 512) (I1 : inR (l4 + (1 : Int32)) SL) (I2 : inR (l4 + (2 : Int32)) SL) (I3 : inR (l4 + (3 : Int32)) SL) (I4 : inR (l4 + (4 : Int32)) SL) : ∃ h2, lw11 SL xs K l4 h = K 1 8 616 671 (l4 + 5) h2 ∧ LSt (n + 1) h2 := by
  obtain ⟨vs, c, TX, KK, tk, T, fa, St, W, own, u, v, L⟩ := L
  obtain ⟨⟨C, R, X⟩, o, vv, ⟨⟨b1, b2, b3, b4, b5⟩, b6⟩, -⟩ := id L
  have o8 := C.1.2.1.1.1
  obtain ⟨h1, h2, x1, x2, x3, x4⟩ := L_step L (F10 := f_X10_task 8 (xs (l4 + (1 : Int32)).toNatClampNeg) (xs (l4 + (2 : Int32)).toNatClampNeg) h) (F11 := fun g => f_X11_task 616 (xs (l4 + (1 : Int32)).toNatClampNeg) (xs (l4 + (2 : Int32)).toNatClampNeg) g) (by rw [c_task R.S C.1 (xs (l4 + (1 : Int32)).toNatClampNeg) (xs (l4 + (2 : Int32)).toNatClampNeg)]; exact aC.id C.1 _) (fun g R1 => w_task (by omega) (by omega) R1 (xs (l4 + (1 : Int32)).toNatClampNeg) (xs (l4 + (2 : Int32)).toNatClampNeg)) (by omega)
  have x3 : f_X11_task 616 (xs (l4 + (1 : Int32)).toNatClampNeg) (xs (l4 + (2 : Int32)).toNatClampNeg) h1 = _ := x3
  refine ⟨h2, ?_, x4⟩
  unfold lw11
  rw [ck_yes I1, ck_yes I2, ck_yes o8, x1, bind_some9]
  dsimp only
  rw [ck_yes I1, ck_yes I2, ck_yes x2, x3, bind_some9]
  dsimp only
  rw [if_pos rfl]
  rfl
theorem b_replicas (L : LSt n h) (hn : n < 512) (I1 : inR (l4 + (1 : Int32)) SL) (I2 : inR (l4 + (2 : Int32)) SL) (I3 : inR (l4 + (3 : Int32)) SL) (I4 : inR (l4 + (4 : Int32)) SL) : ∃ h2, lw13 SL xs K l4 h = K 1 8 616 671 (l4 + 5) h2 ∧ LSt (n + 1) h2 := by
  obtain ⟨vs, c, TX, KK, tk, T, fa, St, W, own, u, v, L⟩ := L
  obtain ⟨⟨C, R, X⟩, o, vv, ⟨⟨b1, b2, b3, b4, b5⟩, b6⟩, -⟩ := id L
  have o8 := C.1.2.1.1.1
  obtain ⟨h1, h2, x1, x2, x3, x4⟩ := L_step L (F10 := f_X10_replicas 8 (xs (l4 + (1 : Int32)).toNatClampNeg) (xs (l4 + (2 : Int32)).toNatClampNeg) h) (F11 := fun g => f_X11_replicas 616 (xs (l4 + (1 : Int32)).toNatClampNeg) (xs (l4 + (2 : Int32)).toNatClampNeg) g) (c_replicas (by omega) R.S C.1 (xs (l4 + (1 : Int32)).toNatClampNeg) (xs (l4 + (2 : Int32)).toNatClampNeg)) (fun g R1 => w_replicas (by omega) R1 (xs (l4 + (1 : Int32)).toNatClampNeg) (xs (l4 + (2 : Int32)).toNatClampNeg)) (by omega)
  have x3 : f_X11_replicas 616 (xs (l4 + (1 : Int32)).toNatClampNeg) (xs (l4 + (2 : Int32)).toNatClampNeg) h1 = _ := x3
  refine ⟨h2, ?_, x4⟩
  unfold lw13
  rw [ck_yes I1, ck_yes I2, ck_yes o8, x1, bind_some9]
  dsimp only
  rw [ck_yes I1, ck_yes I2, ck_yes x2, x3, bind_some9]
  dsimp only
  rw [if_pos rfl]
  rfl
theorem b_fuse (L : LSt n h) (hn : n < 512) (I1 : inR (l4 + (1 : Int32)) SL) (I2 : inR (l4 + (2 : Int32)) SL) (I3 : inR (l4 + (3 : Int32)) SL) (I4 : inR (l4 + (4 : Int32)) SL) : ∃ h2, lw15 SL xs K l4 h = K 1 8 616 671 (l4 + 5) h2 ∧ LSt (n + 1) h2 := by
  obtain ⟨vs, c, TX, KK, tk, T, fa, St, W, own, u, v, L⟩ := L
  obtain ⟨⟨C, R, X⟩, o, vv, ⟨⟨b1, b2, b3, b4, b5⟩, b6⟩, -⟩ := id L
  have o8 := C.1.2.1.1.1
  obtain ⟨h1, h2, x1, x2, x3, x4⟩ := L_step L (F10 := f_X10_fuse 8 (xs (l4 + (1 : Int32)).toNatClampNeg) (xs (l4 + (2 : Int32)).toNatClampNeg) (xs (l4 + (3 : Int32)).toNatClampNeg) h) (F11 := fun g => f_X11_fuse 616 (xs (l4 + (1 : Int32)).toNatClampNeg) (xs (l4 + (2 : Int32)).toNatClampNeg) (xs (l4 + (3 : Int32)).toNatClampNeg) g) (c_fuse (by omega) R.S C.1 (xs (l4 + (1 : Int32)).toNatClampNeg) (xs (l4 + (2 : Int32)).toNatClampNeg) (xs (l4 + (3 : Int32)).toNatClampNeg)) (fun g R1 => w_fuse (by omega) R1 (xs (l4 + (1 : Int32)).toNatClampNeg) (xs (l4 + (2 : Int32)).toNatClampNeg) (xs (l4 + (3 : Int32)).toNatClampNeg)) (by omega)
  have x3 : f_X11_fuse 616 (xs (l4 + (1 : Int32)).toNatClampNeg) (xs (l4 + (2 : Int32)).toNatClampNeg) (xs (l4 + (3 : Int32)).toNatClampNeg) h1 = _ := x3
  refine ⟨h2, ?_, x4⟩
  unfold lw15
  rw [ck_yes I1, ck_yes I2, ck_yes I3, ck_yes o8, x1, bind_some9]
  dsimp only
  rw [ck_yes I1, ck_yes I2, ck_yes I3, ck_yes x2, x3, bind_some9]
  dsimp only
  rw [if_pos rfl]
  rfl
theorem b_workflow (L : LSt n h) (hn : n < 512) (I1 : inR (l4 + (1 : Int32)) SL) (I2 : inR (l4 + (2 : Int32)) SL) (I3 : inR (l4 + (3 : Int32)) SL) (I4 : inR (l4 + (4 : Int32)) SL) : ∃ h2, lw16 SL xs K l4 h = K 1 8 616 671 (l4 + 5) h2 ∧ LSt (n + 1) h2 := by
  obtain ⟨vs, c, TX, KK, tk, T, fa, St, W, own, u, v, L⟩ := L
  obtain ⟨⟨C, R, X⟩, o, vv, ⟨⟨b1, b2, b3, b4, b5⟩, b6⟩, -⟩ := id L
  have o8 := C.1.2.1.1.1
  obtain ⟨h1, h2, x1, x2, x3, x4⟩ := L_step L (F10 := f_X10_workflow 8 (xs (l4 + (1 : Int32)).toNatClampNeg) (xs (l4 + (2 : Int32)).toNatClampNeg) h) (F11 := fun g => f_X11_workflow 616 (xs (l4 + (1 : Int32)).toNatClampNeg) (xs (l4 + (2 : Int32)).toNatClampNeg) g) (by rw [c_workflow vv.1 R.S C.1 (xs (l4 + (1 : Int32)).toNatClampNeg) (xs (l4 + (2 : Int32)).toNatClampNeg)]; exact aC.id C.1 _) (fun g R1 => w_workflow (by omega) R1 (xs (l4 + (1 : Int32)).toNatClampNeg) (xs (l4 + (2 : Int32)).toNatClampNeg)) (by omega)
  have x3 : f_X11_workflow 616 (xs (l4 + (1 : Int32)).toNatClampNeg) (xs (l4 + (2 : Int32)).toNatClampNeg) h1 = _ := x3
  refine ⟨h2, ?_, x4⟩
  unfold lw16
  rw [ck_yes I1, ck_yes I2, ck_yes o8, x1, bind_some9]
  dsimp only
  rw [ck_yes I1, ck_yes I2, ck_yes x2, x3, bind_some9]
  dsimp only
  rw [if_pos rfl]
  rfl
theorem b_shard (L : LSt n h) (hn : n < 512) (I1 : inR (l4 + (1 : Int32)) SL) (I2 : inR (l4 + (2 : Int32)) SL) (I3 : inR (l4 + (3 : Int32)) SL) (I4 : inR (l4 + (4 : Int32)) SL) : ∃ h2, lw18 SL xs K l4 h = K 1 8 616 671 (l4 + 5) h2 ∧ LSt (n + 1) h2 := by
  obtain ⟨vs, c, TX, KK, tk, T, fa, St, W, own, u, v, L⟩ := L
  obtain ⟨⟨C, R, X⟩, o, vv, ⟨⟨b1, b2, b3, b4, b5⟩, b6⟩, -⟩ := id L
  have o8 := C.1.2.1.1.1
  obtain ⟨h1, h2, x1, x2, x3, x4⟩ := L_step L (F10 := f_X10_shard 8 (xs (l4 + (1 : Int32)).toNatClampNeg) (xs (l4 + (2 : Int32)).toNatClampNeg) h) (F11 := fun g => f_X11_shard 616 (xs (l4 + (1 : Int32)).toNatClampNeg) (xs (l4 + (2 : Int32)).toNatClampNeg) g) (by rw [c_shard vv.1 R.S C.1 R.2.2.1 (by omega) (xs (l4 + (1 : Int32)).toNatClampNeg) (xs (l4 + (2 : Int32)).toNatClampNeg)]; exact aC.id C.1 _) (fun g R1 => w_shard (by omega) R1 (xs (l4 + (1 : Int32)).toNatClampNeg) (xs (l4 + (2 : Int32)).toNatClampNeg)) (by omega)
  have x3 : f_X11_shard 616 (xs (l4 + (1 : Int32)).toNatClampNeg) (xs (l4 + (2 : Int32)).toNatClampNeg) h1 = _ := x3
  refine ⟨h2, ?_, x4⟩
  unfold lw18
  rw [ck_yes I1, ck_yes I2, ck_yes o8, x1, bind_some9]
  dsimp only
  rw [ck_yes I1, ck_yes I2, ck_yes x2, x3, bind_some9]
  dsimp only
  rw [if_pos rfl]
  rfl
theorem b_replica (L : LSt n h) (hn : n < 512) (I1 : inR (l4 + (1 : Int32)) SL) (I2 : inR (l4 + (2 : Int32)) SL) (I3 : inR (l4 + (3 : Int32)) SL) (I4 : inR (l4 + (4 : Int32)) SL) : ∃ h2, lw19 SL xs K l4 h = K 1 8 616 671 (l4 + 5) h2 ∧ LSt (n + 1) h2 := by
  obtain ⟨vs, c, TX, KK, tk, T, fa, St, W, own, u, v, L⟩ := L
  obtain ⟨⟨C, R, X⟩, o, vv, ⟨⟨b1, b2, b3, b4, b5⟩, b6⟩, -⟩ := id L
  have o8 := C.1.2.1.1.1
  obtain ⟨h1, h2, x1, x2, x3, x4⟩ := L_step L (F10 := f_X10_replica 8 (xs (l4 + (1 : Int32)).toNatClampNeg) (xs (l4 + (2 : Int32)).toNatClampNeg) (xs (l4 + (3 : Int32)).toNatClampNeg) h) (F11 := fun g => f_X11_replica 616 (xs (l4 + (1 : Int32)).toNatClampNeg) (xs (l4 + (2 : Int32)).toNatClampNeg) (xs (l4 + (3 : Int32)).toNatClampNeg) g) (by rw [c_replica (by omega) R.S C.1 (xs (l4 + (1 : Int32)).toNatClampNeg) (xs (l4 + (2 : Int32)).toNatClampNeg) (xs (l4 + (3 : Int32)).toNatClampNeg)]; exact aC.id C.1 _) (fun g R1 => w_replica (by omega) R1 (xs (l4 + (1 : Int32)).toNatClampNeg) (xs (l4 + (2 : Int32)).toNatClampNeg) (xs (l4 + (3 : Int32)).toNatClampNeg)) (by omega)
  have x3 : f_X11_replica 616 (xs (l4 + (1 : Int32)).toNatClampNeg) (xs (l4 + (2 : Int32)).toNatClampNeg) (xs (l4 + (3 : Int32)).toNatClampNeg) h1 = _ := x3
  refine ⟨h2, ?_, x4⟩
  unfold lw19
  rw [ck_yes I1, ck_yes I2, ck_yes I3, ck_yes o8, x1, bind_some9]
  dsimp only
  rw [ck_yes I1, ck_yes I2, ck_yes I3, ck_yes x2, x3, bind_some9]
  dsimp only
  rw [if_pos rfl]
  rfl
theorem b_disk (L : LSt n h) (hn : n < 512) (I1 : inR (l4 + (1 : Int32)) SL) (I2 : inR (l4 + (2 : Int32)) SL) (I3 : inR (l4 + (3 : Int32)) SL) (I4 : inR (l4 + (4 : Int32)) SL) : ∃ h2, lw20 SL xs K l4 h = K 1 8 616 671 (l4 + 5) h2 ∧ LSt (n + 1) h2 := by
  obtain ⟨vs, c, TX, KK, tk, T, fa, St, W, own, u, v, L⟩ := L
  obtain ⟨⟨C, R, X⟩, o, vv, ⟨⟨b1, b2, b3, b4, b5⟩, b6⟩, -⟩ := id L
  have o8 := C.1.2.1.1.1
  have hT : ∀ s r, s < 4 → r < 5 → dkT (shD (W s) r) < 16 := fun s r hs hr => (c_dk (C.1.2.2 s hs) hr).2.2.2.2.2.1
  obtain ⟨h1, h2, x1, x2, x3, x4⟩ := L_step L (F10 := f_X10_disk 8 (xs (l4 + (1 : Int32)).toNatClampNeg) (xs (l4 + (2 : Int32)).toNatClampNeg) (xs (l4 + (3 : Int32)).toNatClampNeg) (xs (l4 + (4 : Int32)).toNatClampNeg) h) (F11 := fun g => f_X11_disk 616 (xs (l4 + (1 : Int32)).toNatClampNeg) (xs (l4 + (2 : Int32)).toNatClampNeg) (xs (l4 + (3 : Int32)).toNatClampNeg) (xs (l4 + (4 : Int32)).toNatClampNeg) g) (by rw [c_disk (by omega) R.S C.1 (xs (l4 + (1 : Int32)).toNatClampNeg) (xs (l4 + (2 : Int32)).toNatClampNeg) (xs (l4 + (3 : Int32)).toNatClampNeg) (xs (l4 + (4 : Int32)).toNatClampNeg)]; exact aC.id C.1 _) (fun g R1 => w_disk5 (by omega) R1 hT (xs (l4 + (1 : Int32)).toNatClampNeg) (xs (l4 + (2 : Int32)).toNatClampNeg) (xs (l4 + (3 : Int32)).toNatClampNeg) (xs (l4 + (4 : Int32)).toNatClampNeg)) (by omega)
  have x3 : f_X11_disk 616 (xs (l4 + (1 : Int32)).toNatClampNeg) (xs (l4 + (2 : Int32)).toNatClampNeg) (xs (l4 + (3 : Int32)).toNatClampNeg) (xs (l4 + (4 : Int32)).toNatClampNeg) h1 = _ := x3
  refine ⟨h2, ?_, x4⟩
  unfold lw20
  rw [ck_yes I1, ck_yes I2, ck_yes I3, ck_yes I4, ck_yes o8, x1, bind_some9]
  dsimp only
  rw [ck_yes I1, ck_yes I2, ck_yes I3, ck_yes I4, ck_yes x2, x3, bind_some9]
  dsimp only
  rw [if_pos rfl]
  rfl
theorem b_type (L : LSt n h) (hn : n < 512) (I1 : inR (l4 + (1 : Int32)) SL) (I2 : inR (l4 + (2 : Int32)) SL) (I3 : inR (l4 + (3 : Int32)) SL) (I4 : inR (l4 + (4 : Int32)) SL) : ∃ h2, lw0 SL xs K l4 h = K 1 8 616 671 (l4 + 5) h2 ∧ LSt (n + 1) h2 := by
  obtain ⟨vs, c, TX, KK, tk, T, fa, St, W, own, u, v, L⟩ := L
  have o8 := L.1.1.1.2.1.1.1
  obtain ⟨r, h1, h2, x1, x2, x3, x4⟩ := L_type L (((xs (l4 + (1 : Int32)).toNatClampNeg).toInt64 <<< ((32 : Int32).toInt64 &&& 63)) ||| ((xs (l4 + (2 : Int32)).toNatClampNeg).toInt64 &&& (4294967295 : Int64))) (xs (l4 + (3 : Int32)).toNatClampNeg)
  refine ⟨h2, ?_, x4⟩
  unfold lw0
  rw [ck_yes I1, ck_yes I2, ck_yes I3, ck_yes o8, x1, bind_some9]
  dsimp only
  rw [ck_yes I1, ck_yes I2, ck_yes I3, ck_yes x2, x3, bind_some9]
  dsimp only
  rw [if_pos rfl]
  rfl
theorem b_fault (L : LSt n h) (hn : n < 512) : ∃ h2, lw2 SL xs K l4 h = K 1 8 616 671 (l4 + 5) h2 ∧ LSt (n + 1) h2 := by
  obtain ⟨vs, c, TX, KK, tk, T, fa, St, W, own, u, v, L⟩ := L
  have o8 := L.1.1.1.2.1.1.1
  have o6 := RF_o L.1.2.2.1.1
  obtain ⟨r, h2, x1, x3, x4⟩ := L_fault L
  refine ⟨h2, ?_, x4⟩
  unfold lw2
  rw [ck_yes o8, x1, bind_some9]
  dsimp only
  rw [ck_yes o6, x3, bind_some9]
  dsimp only
  rw [if_pos rfl]
  rfl
theorem b_poll (L : LSt n h) (hn : n < 512) (I1 : inR (l4 + (1 : Int32)) SL) (I2 : inR (l4 + (2 : Int32)) SL) (I3 : inR (l4 + (3 : Int32)) SL) (I4 : inR (l4 + (4 : Int32)) SL) : ∃ h2, lw7 SL xs K l4 h = K 1 8 616 671 (l4 + 5) h2 ∧ LSt (n + 1) h2 := by
  obtain ⟨vs, c, TX, KK, tk, T, fa, St, W, own, u, v, L⟩ := L
  have o8 := L.1.1.1.2.1.1.1
  obtain ⟨r, h1, h2, x1, x2, x3, x4⟩ := L_poll L hn (xs (l4 + (1 : Int32)).toNatClampNeg)
  refine ⟨h2, ?_, x4⟩
  unfold lw7
  rw [ck_yes I1, ck_yes o8, x1, bind_some9]
  dsimp only
  rw [ck_yes I1, ck_yes x2, x3, bind_some9]
  dsimp only
  rw [if_pos rfl]
  rfl
theorem b_pow1 (L : LSt n h) (hn : n < 512) (I1 : inR (l4 + (1 : Int32)) SL) (I2 : inR (l4 + (2 : Int32)) SL) (I3 : inR (l4 + (3 : Int32)) SL) (I4 : inR (l4 + (4 : Int32)) SL) (on : Bool) {a b x : Int32} (ea : xs (l4 + (1 : Int32)).toNatClampNeg = a) (eb : xs (l4 + (2 : Int32)).toNatClampNeg = b) (ex : (if xs (l4 + (3 : Int32)).toNatClampNeg = 0 then (0 : Int32) else 1) = if on = true then 1 else 0) : ∃ h2, f_L_law_734 SL xs K 8 a b (if on = true then 1 else 0) 1 8 616 671 l4 h = K 1 8 616 671 (l4 + 5) h2 ∧ LSt (n + 1) h2 := by
  obtain ⟨vs, c, TX, KK, tk, T, fa, St, W, own, u, v, L⟩ := L
  obtain ⟨⟨C, R, X⟩, o, vv, ⟨⟨b1, b2, b3, b4, b5⟩, b6⟩, -⟩ := id L
  have o8 := C.1.2.1.1.1
  obtain ⟨h1, h2, x1, x2, x3, x4⟩ := L_step L (F10 := f_X10_power 8 a b (if on = true then 1 else 0) h) (F11 := fun g => f_X11_power 616 a b (if on = true then 1 else 0) g) (c_power vv.1 (by omega) R.S C.1 a b on) (fun g R1 => w_power (by omega) R1 a b on) (by omega)
  have x3 : f_X11_power 616 a b (if on = true then 1 else 0) h1 = _ := x3
  refine ⟨h2, ?_, x4⟩
  have tail : ∀ r : Int32, f_X11_power 616 a b (if on = true then 1 else 0) h1 = some (r, h2) → f_L_law_764 SL xs K r 616 a b (if on = true then 1 else 0) 1 8 616 671 l4 h1 = K 1 8 616 671 (l4 + 5) h2 := fun r hr => by
    unfold f_L_law_764
    rw [ck_yes x2, hr, bind_some9]
    dsimp only
    rw [if_pos rfl]
    rfl
  unfold f_L_law_734
  rw [ck_yes o8, x1, bind_some9]
  dsimp only
  rw [ck_yes rfl, ck_yes I1, ck_yes I2, ck_yes I3, ea, eb]
  by_cases z : xs (l4 + (3 : Int32)).toNatClampNeg = 0
  · rw [if_pos z] at ex
    rw [if_pos z]
    rw [← ex] at x3 tail
    exact tail _ x3
  · rw [if_neg z] at ex
    rw [if_neg z]
    rw [← ex] at x3 tail
    exact tail _ x3
theorem b_power (L : LSt n h) (hn : n < 512) (I1 : inR (l4 + (1 : Int32)) SL) (I2 : inR (l4 + (2 : Int32)) SL) (I3 : inR (l4 + (3 : Int32)) SL) (I4 : inR (l4 + (4 : Int32)) SL) : ∃ h2, lw14 SL xs K l4 h = K 1 8 616 671 (l4 + 5) h2 ∧ LSt (n + 1) h2 := by
  unfold lw14
  rw [ck_yes I1, ck_yes I2, ck_yes I3]
  by_cases z : xs (l4 + (3 : Int32)).toNatClampNeg = 0
  · rw [if_pos z]
    exact b_pow1 (x := 0) L hn I1 I2 I3 I4 false rfl rfl (by rw [if_pos z]; rfl)
  · rw [if_neg z]
    exact b_pow1 (x := 0) L hn I1 I2 I3 I4 true rfl rfl (by rw [if_neg z]; rfl)
end Br
/-! calls that may throw, in the law -/
theorem lg_self (x : Int64) : lg_cmp x x = 0 := by
  unfold lg_cmp
  rw [if_neg (fun z => Int64.lt_irrefl z), if_pos rfl]
theorem lawT {h2 : Hp} {q1 r : Int32} {M : Hp → Option (Int32 × Hp)} (H : RF h2) (o : isO h2 671 24 ∧ zL h2 671 = 1) (e : zI h2 1200 616 = q1) (ex : q1 = 0 → zX h2 671 0 = r.toInt64) : (ck (isO h2 616 12) ((f_X11_thrown 616 h2).bind (fun q => if q.1 = q1 then (if q1 = 0 then ck (isO q.2 671 24) (ck (inR (0 : Int32) (zL q.2 671)) (if lg_cmp (zX q.2 671 (0 : Int32).toNatClampNeg) r.toInt64 = 0 then M q.2 else some ((0 : Int32), q.2))) else M q.2) else some ((0 : Int32), q.2)))) = M h2 := by
  unfold f_X11_thrown
  rw [ck_yes (RF_o H), ck_yes (RF_o H), bind_some9]
  dsimp only
  rw [if_pos e]
  by_cases c : q1 = 0
  · rw [if_pos c, ck_yes o.1, o.2, ck_yes (by decide), show zX h2 671 (0 : Int32).toNatClampNeg = zX h2 671 0 from rfl, ex c, lg_self, if_pos rfl]
  · rw [if_neg c]
section Th
variable {h h1 : Hp} {q : Int32 × Int32}
theorem thr0 {a b : Nat} (e : q.1 = 0) : thr a b q h1 = .inl (q.2, h1) := by unfold thr; rw [if_pos e]
theorem thr1 {a b : Nat} (e : q.1 = 1) : thr a b q h1 = .inr (a, h1) := by unfold thr; rw [e, if_neg (by decide), if_pos rfl]
theorem thr2 {a b : Nat} (e : q.1 = 2) : thr a b q h1 = .inr (b, h1) := by unfold thr; rw [e, if_neg (by decide), if_neg (by decide)]
theorem thH0 (e : q.1 = 0) : some (q.1, thH q h1) = some ((0 : Int32), pX h1 671 (0 : Int32).toNatClampNeg q.2.toInt64) := by unfold thH; rw [if_pos e, e]; rfl
theorem thHn {k : Int32} (e : q.1 = k) (k0 : k ≠ 0) : some (q.1, thH q h1) = some (k, pN h1 40 6) := by unfold thH; rw [if_neg (by rw [e]; exact k0), e]
theorem fL_query {w x : Int32} (o : isO h 8 11) (e : f_X10_query 8 w x h = some (thr 20 44 q h1)) (o7 : isO h1 671 24 ∧ zL h1 671 = 1) (hq : q.1 = 0 ∨ q.1 = 1 ∨ q.1 = 2) : f_L_query 8 w x 671 h = some (q.1, thH q h1) := by
  unfold f_L_query
  rw [ck_yes o, e, bind_some9]
  rcases hq with z | z | z
  · rw [thr0 z, thH0 z]; dsimp only; rw [ck_yes o7.1, o7.2, ck_yes (by decide)]
  · rw [thr1 z, thHn z (by decide)]; dsimp only; rw [if_pos rfl]
  · rw [thr2 z, thHn z (by decide)]; dsimp only; rw [if_neg (by decide), if_pos rfl]
theorem fL_event {w x y : Int32} (o : isO h 8 11) (e : f_X10_event 8 w x y h = some (thr 28 112 q h1)) (o7 : isO h1 671 24 ∧ zL h1 671 = 1) (hq : q.1 = 0 ∨ q.1 = 1 ∨ q.1 = 2) : f_L_event 8 w x y 671 h = some (q.1, thH q h1) := by
  unfold f_L_event
  rw [ck_yes o, e, bind_some9]
  rcases hq with z | z | z
  · rw [thr0 z, thH0 z]; dsimp only; rw [ck_yes o7.1, o7.2, ck_yes (by decide)]
  · rw [thr1 z, thHn z (by decide)]; dsimp only; rw [if_pos rfl]
  · rw [thr2 z, thHn z (by decide)]; dsimp only; rw [if_neg (by decide), if_pos rfl]
theorem fL_program {p : Int32} (o : isO h 8 11) (e : f_X10_program 8 p h = some (thr 39 17 q h1)) (o7 : isO h1 671 24 ∧ zL h1 671 = 1) (hq : q.1 = 0 ∨ q.1 = 1 ∨ q.1 = 2) : f_L_program 8 p 671 h = some (q.1, thH q h1) := by
  unfold f_L_program
  rw [ck_yes o, e, bind_some9]
  rcases hq with z | z | z
  · rw [thr0 z, thH0 z]; dsimp only; rw [ck_yes o7.1, o7.2, ck_yes (by decide)]
  · rw [thr1 z, thHn z (by decide)]; dsimp only; rw [if_neg (by decide), if_pos rfl]
  · rw [thr2 z, thHn z (by decide)]; dsimp only; rw [if_pos rfl]
theorem fL_tick {p : Int32} (o : isO h 8 11) (e : f_X10_tick 8 p h = some (thr 12 12 q h1)) (o7 : isO h1 671 24 ∧ zL h1 671 = 1) (hq : q.1 = 0 ∨ q.1 = 1) : f_L_tick 8 p 671 h = some (q.1, thH q h1) := by
  unfold f_L_tick
  rw [ck_yes o, e, bind_some9]
  rcases hq with z | z
  · rw [thr0 z, thH0 z]; dsimp only; rw [ck_yes o7.1, o7.2, ck_yes (by decide)]
  · rw [thr1 z, thHn z (by decide)]; dsimp only; rw [if_pos rfl]
end Th
theorem wdQuery_3 (W : Wld) (w x : Int32) : (wdQuery W w x).1 = 0 ∨ (wdQuery W w x).1 = 1 ∨ (wdQuery W w x).1 = 2 := by
  unfold wdQuery
  cases flw W w with
  | none => exact Or.inr (Or.inl rfl)
  | some p =>
    dsimp only
    split
    · exact Or.inr (Or.inl rfl)
    · split
      · exact Or.inr (Or.inr rfl)
      · exact Or.inl rfl
theorem wdEvent_3 (W : Wld) (w x y : Int32) : (wdEvent W w x y).1 = 0 ∨ (wdEvent W w x y).1 = 1 ∨ (wdEvent W w x y).1 = 2 := by
  unfold wdEvent
  cases flw W w with
  | none => exact Or.inr (Or.inl rfl)
  | some p =>
    dsimp only
    split
    · exact Or.inr (Or.inl rfl)
    · split
      · exact Or.inr (Or.inr rfl)
      · exact Or.inl rfl
/-- a call that changes nothing of the programs -/
theorem aft_b {vs : Nat → List Prg} {c1 : Nat} {TX : List (Nat × Nat × Nat × Prg)} {K tk : Nat} {g : Hp} {W1 : Wld} {th r : Int32} {x : Option (Int32 × Hp)} {T : List Int32} {fa : Int32} {St : Nat} (a : aft vs c1 TX K tk g W1 th r x) (X : RX vs TX g T fa St) : ∃ h2, x = some (r, h2) ∧ RT vs c1 TX K tk h2 W1 ∧ RX vs TX h2 T fa St ∧ frx tpS g h2 ∧ zI h2 1200 616 = th := by
  obtain ⟨h2, a1, a2, a3, a4⟩ := a
  exact ⟨h2, a1, a3, X.tp a4, a4, a2⟩
section Bt
variable {n : Nat} {SL : Nat} {xs : Nat → Int32} {K : KT} {l4 : Int32} {h : Hp}
theorem b_query (L : LSt n h) (hn : n < 512) (I1 : inR (l4 + (1 : Int32)) SL) (I2 : inR (l4 + (2 : Int32)) SL) : ∃ h2, lw6 SL xs K l4 h = K 1 8 616 671 (l4 + 5) h2 ∧ LSt (n + 1) h2 := by
  obtain ⟨vs, c, TX, KK, tk, T, fa, St, W, own, u, v, L⟩ := L
  obtain ⟨⟨C, R, X⟩, o, vv, ⟨⟨b1, b2, b3, b4, b5⟩, b6⟩, -⟩ := id L
  have o8 := C.1.2.1.1.1
  unfold lw6
  generalize (xs (l4 + (1 : Int32)).toNatClampNeg) = a
  generalize (xs (l4 + (2 : Int32)).toNatClampNeg) = b
  obtain ⟨h2, x1, x2, x3, x4, x5, x6, x7⟩ := L_thr (q := wdQuery W a b) L C (acL.rf _ _ _ _) (F11 := fun g => f_X11_query 616 a b g) (fun g R1 X1 => aft_b (w_query (by omega) R1 a b) X1) tpS_in vv ⟨⟨by omega, by omega, by omega⟩, fun p hp => by have := b6 p hp; omega⟩
  have x2 : f_X11_query 616 a b _ = _ := x2
  refine ⟨h2, ?_, x7⟩
  rw [ck_yes I1, ck_yes I2, fL_query o8 (c_query C.1 a b) o (wdQuery_3 W a b), bind_some9]
  dsimp only
  rw [ck_yes I1, ck_yes I2, ck_yes x1, x2, bind_some9]
  exact lawT (M := fun g => f_L_law_462 SL xs K 1 8 616 671 l4 g) x3 x5 x4 x6
theorem b_event (L : LSt n h) (hn : n < 512) (I1 : inR (l4 + (1 : Int32)) SL) (I2 : inR (l4 + (2 : Int32)) SL) (I3 : inR (l4 + (3 : Int32)) SL) : ∃ h2, lw17 SL xs K l4 h = K 1 8 616 671 (l4 + 5) h2 ∧ LSt (n + 1) h2 := by
  obtain ⟨vs, c, TX, KK, tk, T, fa, St, W, own, u, v, L⟩ := L
  obtain ⟨⟨C, R, X⟩, o, vv, ⟨⟨b1, b2, b3, b4, b5⟩, b6⟩, -⟩ := id L
  have o8 := C.1.2.1.1.1
  unfold lw17
  generalize (xs (l4 + (1 : Int32)).toNatClampNeg) = a
  generalize (xs (l4 + (2 : Int32)).toNatClampNeg) = b
  generalize (xs (l4 + (3 : Int32)).toNatClampNeg) = d
  obtain ⟨h2, x1, x2, x3, x4, x5, x6, x7⟩ := L_thr (q := wdEvent W a b d) L C (acL.rf _ _ _ _) (F11 := fun g => f_X11_event_ 616 a b d g) (fun g R1 X1 => aft_b (w_event_ (by omega) R1 a b d) X1) tpS_in vv ⟨⟨by omega, by omega, by omega⟩, fun p hp => by have := b6 p hp; omega⟩
  have x2 : f_X11_event_ 616 a b d _ = _ := x2
  refine ⟨h2, ?_, x7⟩
  rw [ck_yes I1, ck_yes I2, ck_yes I3, fL_event o8 (c_event C.1 a b d) o (wdEvent_3 W a b d), bind_some9]
  dsimp only
  rw [ck_yes I1, ck_yes I2, ck_yes I3, ck_yes x1, x2, bind_some9]
  exact lawT (M := fun g => f_L_law_935 SL xs K 1 8 616 671 l4 g) x3 x5 x4 x6
theorem b_tick (L : LSt n h) (hn : n < 512) (I1 : inR (l4 + (1 : Int32)) SL) : ∃ h2, lw12 SL xs K l4 h = K 1 8 616 671 (l4 + 5) h2 ∧ LSt (n + 1) h2 := by
  obtain ⟨vs, c, TX, KK, tk, T, fa, St, W, own, u, v, L⟩ := L
  obtain ⟨⟨C, R, X⟩, o, vv, ⟨⟨b1, b2, b3, b4, b5⟩, b6⟩, -⟩ := id L
  have o8 := C.1.2.1.1.1
  unfold lw12
  generalize (xs (l4 + (1 : Int32)).toNatClampNeg) = a
  obtain ⟨t1, t2⟩ := c_tick (K := KK) vv.1 vv.2 (by omega) (by omega) R.S C.1 a
  by_cases e : a < 1 ∨ 500 < a
  · obtain ⟨h2, x1, x2, x3, x4, x5, x6, x7⟩ := L_thr (q := (1, 0)) L C (acL.rf _ _ _ _) (F11 := fun g => f_X11_tick 616 a g) (fun g R1 X1 => aft_b ((w_tickT vv.1 vv.2 (by omega) (by omega) R1 a).1 e) X1) tpS_in vv ⟨⟨by omega, by omega, by omega⟩, fun p hp => by have := b6 p hp; omega⟩
    have x2 : f_X11_tick 616 a _ = _ := x2
    refine ⟨h2, ?_, x7⟩
    rw [ck_yes I1, fL_tick (q := (1, 0)) o8 (t1 e) o (Or.inr rfl), bind_some9]
    dsimp only
    rw [ck_yes I1, ck_yes x1, x2, bind_some9]
    exact lawT (M := fun g => f_L_law_667 SL xs K 1 8 616 671 l4 g) x3 x5 x4 x6
  · obtain ⟨h1, own1, u1, v1, y1, y2, y3⟩ := t2 e
    obtain ⟨C1, a1⟩ := C.act y2 y3
    have le : a.toNatClampNeg ≤ 500 := by
      have g : ¬ a < 0 := fun z => e (Or.inl (Int32.lt_trans z (by decide)))
      obtain ⟨m, m1, m2⟩ := zi_of g
      rw [m2, zi_nat m1]
      have h2 : ¬ nI 500 < nI m := fun z => e (Or.inr (by rw [m2]; exact z))
      rw [zi_lt (by omega) m1] at h2
      omega
    obtain ⟨h2, x1, x2, x3, x4, x5, x6, x7⟩ := L_thr (q := (0, nI (c + a.toNatClampNeg))) L C1 a1 (F11 := fun g => f_X11_tick 616 a g) (fun g R1 X1 => aft_b ((w_tickT vv.1 vv.2 (by omega) (by omega) R1 a).2 e) X1) tpS_in vv ⟨⟨by omega, by omega, by omega⟩, fun p hp => by have := b6 p hp; omega⟩
    have x2 : f_X11_tick 616 a _ = _ := x2
    refine ⟨h2, ?_, x7⟩
    rw [ck_yes I1, fL_tick (q := (0, nI (c + a.toNatClampNeg))) o8 y1 (a1.o C.1.1.1 o) (Or.inl rfl), bind_some9]
    dsimp only
    rw [ck_yes I1, ck_yes x1, x2, bind_some9]
    exact lawT (M := fun g => f_L_law_667 SL xs K 1 8 616 671 l4 g) x3 x5 x4 x6
end Bt
/-! a program, in the law -/
theorem vsOK_up {vs : Nat → List Prg} {p : Nat} {P : Prg} {N : Nat} (v : vsOK vs) (hl : (vs p).length ≤ N) (hN : N < 4000) (ok : prgOK P) : vsOK (upf vs p (vs p ++ [P])) := fun x hx => by
  by_cases e : x = p
  · rw [e, show upf vs p (vs p ++ [P]) p = vs p ++ [P] from if_pos rfl]
    refine ⟨by rw [List.length_append, List.length_singleton]; omega, fun Q hQ => ?_⟩
    rcases List.mem_append.mp hQ with z | z
    · rw [e] at hx; exact (v p hx).2 Q z
    · rw [List.mem_singleton.mp z]; exact ok
  · rw [show upf vs p (vs p ++ [P]) x = vs x from if_neg e]
    exact v x hx
theorem vsDg_up {vs : Nat → List Prg} {p : Nat} {P : Prg} (v : vsDg vs) (ok : prgDg P) : vsDg (upf vs p (vs p ++ [P])) := fun x hx Q hQ => by
  by_cases e : x = p
  · rw [e, show upf vs p (vs p ++ [P]) p = vs p ++ [P] from if_pos rfl] at hQ
    rcases List.mem_append.mp hQ with z | z
    · rw [e] at hx; exact v p hx Q z
    · rw [List.mem_singleton.mp z]; exact ok
  · rw [show upf vs p (vs p ++ [P]) x = vs x from if_neg e] at hQ
    exact v x hx Q hQ
section Bp
variable {n : Nat} {SL : Nat} {xs : Nat → Int32} {K : KT} {l4 : Int32} {h : Hp}
theorem pgA_in : ∀ a j, pgA a j → 616 ≤ a ∧ a < 671 := fun a j z => by unfold pgA at z; omega
/-- behind the catching call -/
theorem b_pg1 {a : Int32} {q : Int32 × Int32} {h1 h2 : Hp} (I1 : inR (l4 + (1 : Int32)) SL) (ea : xs (l4 + (1 : Int32)).toNatClampNeg = a) (e : f_L_program 8 a 671 h = some (q.1, thH q h1)) (x1 : isO (thH q h1) 616 12) (x2 : f_X11_program 616 a (thH q h1) = some (q.2, h2)) (x3 : RF h2) (x4 : zI h2 1200 616 = q.1) (x5 : isO h2 671 24 ∧ zL h2 671 = 1) (x6 : q.1 = 0 → zX h2 671 0 = q.2.toInt64) : lw1 SL xs K l4 h = K 1 8 616 671 (l4 + 5) h2 := by
  unfold lw1
  rw [ea, ck_yes I1, e, bind_some9]
  dsimp only
  rw [ck_yes I1, ck_yes x1, x2, bind_some9]
  exact lawT (M := fun g => f_L_law_258 SL xs K 1 8 616 671 l4 g) x3 x5 x4 x6
theorem b_program (L : LSt n h) (hn : n < 512) (I1 : inR (l4 + (1 : Int32)) SL) : ∃ h2, lw1 SL xs K l4 h = K 1 8 616 671 (l4 + 5) h2 ∧ LSt (n + 1) h2 := by
  obtain ⟨vs, c, TX, KK, tk, T, fa, St, W, own, u, v, L⟩ := L
  obtain ⟨⟨C, R, X⟩, o, vv, ⟨⟨b1, b2, b3, b4, b5⟩, b6⟩, -⟩ := id L
  have o8 := C.1.2.1.1.1
  generalize ea : (xs (l4 + (1 : Int32)).toNatClampNeg) = a
  by_cases e1 : a < 0 ∨ ¬ a < 8
  · obtain ⟨h1, own1, u1, v1, y1, C1, a1⟩ := c_programB C e1
    have e8 : a < 0 ∨ 8 ≤ a := e1.imp id (fun z => Int32.not_lt.mp z)
    obtain ⟨h2, x1, x2, x3, x4, x5, x6, x7⟩ := L_thr (q := (2, 0)) L C1 a1 (F11 := fun g => f_X11_program 616 a g) (fun g R1 X1 => by
      obtain ⟨k, k1, k2, k3, k4, k5⟩ := w_programB X1 R1 e8
      exact ⟨k, k1, k3, k2, k4, k5⟩) pgA_in vv ⟨⟨by omega, by show 3 * St + 0 ≤ _; omega, by omega⟩, fun p hp => by have := b6 p hp; omega⟩
    exact ⟨h2, b_pg1 (q := (2, 0)) I1 ea (fL_program (q := (2, 0)) o8 y1 (a1.o C.1.1.1 o) (Or.inr (Or.inr rfl))) x1 x2 x3 x4 x5 x6, x7⟩
  · have n0 : ¬ a < 0 := fun z => e1 (Or.inl z)
    have l8 : a < 8 := Decidable.byContradiction (fun z => e1 (Or.inr z))
    have n8 : ¬ (a < 0 ∨ 8 ≤ a) := fun z => z.elim n0 (fun y => Int32.not_lt.mpr y l8)
    by_cases hf : (prs T).1 = -1
    · obtain ⟨p, p1, p2⟩ := zi_of n0
      have p8 : p < 8 := by
        rw [p2] at l8
        have l8 : nI p < nI 8 := l8
        rw [zi_lt p1 (by omega)] at l8
        exact l8
      have bp := b6 p p8
      obtain ⟨h1, own1, u1, v1, y1, C1, a1⟩ := c_programY C p8 (by omega) hf
      have pok := prs_ok X.1.2.1 hf
      have pln := prs_len T
      obtain ⟨h2, x1, x2, x3, x4, x5, x6, x7⟩ := L_thr (q := (0, nI (prs T).2.length)) L C1 a1 (F11 := fun g => f_X11_program 616 (nI p) g) (fun g R1 X1 => by
        obtain ⟨k, k1, k2, k3, k4, k5⟩ := w_programY X1 R1 (by omega) p8 (by omega) (by omega) hf
        exact ⟨k, k1, k3, k2, k4, k5⟩) pgA_in ⟨vsOK_up vv.1 bp (by omega) pok.1, vsDg_up vv.2 pok.2⟩ ⟨⟨by omega, by show 3 * (St + (prs T).2.length) + 0 ≤ _; omega, by rw [List.length_append, List.length_singleton]; omega⟩, fun x hx => by
        by_cases e : x = p
        · rw [e, show upf vs p (vs p ++ [(prs T).2]) p = vs p ++ [(prs T).2] from if_pos rfl, List.length_append, List.length_singleton]; omega
        · rw [show upf vs p (vs p ++ [(prs T).2]) x = vs x from if_neg e]
          have := b6 x hx; omega⟩
      rw [p2] at ea
      exact ⟨h2, b_pg1 (q := (0, nI (prs T).2.length)) I1 ea (fL_program (q := (0, nI (prs T).2.length)) o8 y1 (a1.o C.1.1.1 o) (Or.inl rfl)) x1 x2 x3 x4 x5 x6, x7⟩
    · obtain ⟨h1, own1, u1, v1, y1, C1, a1⟩ := c_programF C n0 l8 hf
      obtain ⟨h2, x1, x2, x3, x4, x5, x6, x7⟩ := L_thr (q := (1, 0)) L C1 a1 (F11 := fun g => f_X11_program 616 a g) (fun g R1 X1 => by
        obtain ⟨k, k1, k2, k3, k4, k5⟩ := w_programF X1 R1 (by omega) n8 hf
        exact ⟨k, k1, k3, k2, k4, k5⟩) pgA_in vv ⟨⟨by omega, by show 3 * St + 0 ≤ _; omega, by omega⟩, fun p hp => by have := b6 p hp; omega⟩
      exact ⟨h2, b_pg1 (q := (1, 0)) I1 ea (fL_program (q := (1, 0)) o8 y1 (a1.o C.1.1.1 o) (Or.inr (Or.inl rfl))) x1 x2 x3 x4 x5 x6, x7⟩
end Bp
/-! THE LAW'S LOOP -/
theorem LSt.up {n : Nat} {h : Hp} (L : LSt n h) : LSt (n + 1) h := by
  obtain ⟨vs, c, TX, KK, tk, T, fa, St, W, own, u, v, l1, l2, l3, ⟨⟨b1, b2, b3, b4, b5⟩, b6⟩, l5, l6⟩ := L
  exact ⟨vs, c, TX, KK, tk, T, fa, St, W, own, u, v, l1, l2, l3, ⟨⟨by omega, by omega, by omega, by omega, by omega⟩, fun p hp => by have := b6 p hp; omega⟩, by omega, by omega⟩
theorem law_one {SL : Nat} {xs : Nat → Int32} (hS : SL ≤ 2560) {n fuel : Nat} {h : Hp} (L : LSt n h) (hn : 5 * n + 5 ≤ SL) : ∃ h2, f_L_law_23 SL xs (fuel + 1) 1 8 616 671 (nI (5 * n)) h = f_L_law_23 SL xs fuel 1 8 616 671 (nI (5 * (n + 1))) h2 ∧ LSt (n + 1) h2 := by
  have e5 : nI (5 * n) + 5 = nI (5 * (n + 1)) := by
    rw [show (5 : Int32) = nI 5 from rfl, zi_add]; congr 1
  have lo : ¬ nI SL - 5 < nI (5 * n) := by
    rw [show nI SL - (5 : Int32) = nI (SL - 5) from zi_sub (b := 5) (by omega), zi_lt (by omega) (by omega)]
    omega
  have I0 : inR (nI (5 * n)) SL := zi_in (by omega) (by omega)
  have I1 : inR (nI (5 * n) + (1 : Int32)) SL := in5 (j := 1) hn hS (by omega)
  have I2 : inR (nI (5 * n) + (2 : Int32)) SL := in5 (j := 2) hn hS (by omega)
  have I3 : inR (nI (5 * n) + (3 : Int32)) SL := in5 (j := 3) hn hS (by omega)
  have I4 : inR (nI (5 * n) + (4 : Int32)) SL := in5 (j := 4) hn hS (by omega)
  have h5 : n < 512 := by omega
  rw [law_unf, if_neg lo, ck_yes I0, ← e5]
  generalize xs (nI (5 * n)).toNatClampNeg &&& 31 = kd
  dsimp only
  by_cases c0 : kd = 0
  · rw [if_pos c0]; exact b_type L h5 I1 I2 I3 I4
  rw [if_neg c0]
  by_cases c1 : kd = 1
  · rw [if_pos c1]; exact b_program L h5 I1
  rw [if_neg c1]
  by_cases c2 : kd = 2
  · rw [if_pos c2]; exact b_fault L h5
  rw [if_neg c2]
  by_cases c3 : kd = 3
  · rw [if_pos c3]; exact b_start L h5 I1 I2 I3 I4
  rw [if_neg c3]
  by_cases c4 : kd = 4
  · rw [if_pos c4]; exact b_signal L h5 I1 I2 I3 I4
  rw [if_neg c4]
  by_cases c5 : kd = 5
  · rw [if_pos c5]; exact b_cancel L h5 I1 I2 I3 I4
  rw [if_neg c5]
  by_cases c6 : kd = 6
  · rw [if_pos c6]; exact b_query L h5 I1 I2
  rw [if_neg c6]
  by_cases c7 : kd = 7
  · rw [if_pos c7]; exact b_poll L h5 I1 I2 I3 I4
  rw [if_neg c7]
  by_cases c8 : kd = 8
  · rw [if_pos c8]; exact b_beat L h5 I1 I2 I3 I4
  rw [if_neg c8]
  by_cases c9 : kd = 9
  · rw [if_pos c9]; exact b_finish L h5 I1 I2 I3 I4
  rw [if_neg c9]
  by_cases c10 : kd = 10
  · rw [if_pos c10]; exact b_fail L h5 I1 I2 I3 I4
  rw [if_neg c10]
  by_cases c11 : kd = 11
  · rw [if_pos c11]; exact b_task L h5 I1 I2 I3 I4
  rw [if_neg c11]
  by_cases c12 : kd = 12
  · rw [if_pos c12]; exact b_tick L h5 I1
  rw [if_neg c12]
  by_cases c13 : kd = 13
  · rw [if_pos c13]; exact b_replicas L h5 I1 I2 I3 I4
  rw [if_neg c13]
  by_cases c14 : kd = 14
  · rw [if_pos c14]; exact b_power L h5 I1 I2 I3 I4
  rw [if_neg c14]
  by_cases c15 : kd = 15
  · rw [if_pos c15]; exact b_fuse L h5 I1 I2 I3 I4
  rw [if_neg c15]
  by_cases c16 : kd = 16
  · rw [if_pos c16]; exact b_workflow L h5 I1 I2 I3 I4
  rw [if_neg c16]
  by_cases c17 : kd = 17
  · rw [if_pos c17]; exact b_event L h5 I1 I2 I3
  rw [if_neg c17]
  by_cases c18 : kd = 18
  · rw [if_pos c18]; exact b_shard L h5 I1 I2 I3 I4
  rw [if_neg c18]
  by_cases c19 : kd = 19
  · rw [if_pos c19]; exact b_replica L h5 I1 I2 I3 I4
  rw [if_neg c19]
  by_cases c20 : kd = 20
  · rw [if_pos c20]; exact b_disk L h5 I1 I2 I3 I4
  rw [if_neg c20]
  exact ⟨h, rfl, L.up⟩
theorem law_end {SL : Nat} {xs : Nat → Int32} (hS : SL ≤ 2560) {n fuel : Nat} {h : Hp} (hn : n = SL / 5) : f_L_law_23 SL xs (fuel + 1) 1 8 616 671 (nI (5 * n)) h = some (1, h) := by
  have lo : nI SL - 5 < nI (5 * n) := by
    by_cases c : 5 ≤ SL
    · rw [show nI SL - (5 : Int32) = nI (SL - 5) from zi_sub (b := 5) c, zi_lt (by omega) (by omega)]
      omega
    · have : SL = 0 ∨ SL = 1 ∨ SL = 2 ∨ SL = 3 ∨ SL = 4 := by omega
      have z : n = 0 := by omega
      rw [z]
      rcases this with e | e | e | e | e <;> (rw [e]; decide)
  rw [law_unf, if_pos lo]
theorem law_loop {SL : Nat} {xs : Nat → Int32} (hS : SL ≤ 2560) : ∀ (m n fuel : Nat) (h : Hp), n + m = SL / 5 → m < fuel → LSt n h → ∃ h1, f_L_law_23 SL xs fuel 1 8 616 671 (nI (5 * n)) h = some (1, h1) ∧ LSt (SL / 5) h1
  | m, n, 0, _, _, hf, _ => absurd hf (Nat.not_lt_zero _)
  | 0, n, fuel + 1, h, hn, _, L => ⟨h, law_end hS hn, by rw [← hn]; exact L⟩
  | m + 1, n, fuel + 1, h, hn, hf, L => by
    obtain ⟨h2, x1, x2⟩ := law_one (xs := xs) (fuel := fuel) hS L (by omega)
    obtain ⟨h1, y1, y2⟩ := law_loop (xs := xs) hS m (n + 1) fuel h2 (by omega) (by omega) x2
    exact ⟨h1, x1.trans y1, y2⟩
