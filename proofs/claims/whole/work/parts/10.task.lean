abbrev Y_X8_open : Yx := (⟨"TaskWeave$Task", "open", "(III)V"⟩, prog_10_method_2_code, 4, none)
abbrev M_X8_open : Mx := ("TaskWeave$Task", prog_10_method_2_code, 4, false)
theorem yk_X8_open : Yk Y_X8_open 3 := ⟨by decide +kernel, by decide +kernel, ⟨by decide, by decide⟩, by decide +kernel, by decide, by decide +kernel⟩
theorem d_X8_open_0 : decode prog_10_method_2_code 0 = .ok (.aload_n 0, 1) := by decide +kernel
theorem d_X8_open_1 : decode prog_10_method_2_code 1 = .ok (.iload_n 1, 1) := by decide +kernel
theorem d_X8_open_2 : decode prog_10_method_2_code 2 = .ok (.putfield 7, 3) := by decide +kernel
theorem d_X8_open_5 : decode prog_10_method_2_code 5 = .ok (.aload_n 0, 1) := by decide +kernel
theorem d_X8_open_6 : decode prog_10_method_2_code 6 = .ok (.iload_n 2, 1) := by decide +kernel
theorem d_X8_open_7 : decode prog_10_method_2_code 7 = .ok (.putfield 13, 3) := by decide +kernel
theorem d_X8_open_10 : decode prog_10_method_2_code 10 = .ok (.aload_n 0, 1) := by decide +kernel
theorem d_X8_open_11 : decode prog_10_method_2_code 11 = .ok (.iconst 1, 1) := by decide +kernel
theorem d_X8_open_12 : decode prog_10_method_2_code 12 = .ok (.putfield 16, 3) := by decide +kernel
theorem d_X8_open_15 : decode prog_10_method_2_code 15 = .ok (.aload_n 0, 1) := by decide +kernel
theorem d_X8_open_16 : decode prog_10_method_2_code 16 = .ok (.iload_n 3, 1) := by decide +kernel
theorem d_X8_open_17 : decode prog_10_method_2_code 17 = .ok (.putfield 19, 3) := by decide +kernel
theorem d_X8_open_20 : decode prog_10_method_2_code 20 = .ok (.aload_n 0, 1) := by decide +kernel
theorem d_X8_open_21 : decode prog_10_method_2_code 21 = .ok (.iconst 0, 1) := by decide +kernel
theorem d_X8_open_22 : decode prog_10_method_2_code 22 = .ok (.putfield 22, 3) := by decide +kernel
theorem d_X8_open_25 : decode prog_10_method_2_code 25 = .ok (.return_, 1) := by decide +kernel
abbrev Y_X8_ready : Yx := (⟨"TaskWeave$Task", "ready", "(II)V"⟩, prog_10_method_3_code, 3, none)
abbrev M_X8_ready : Mx := ("TaskWeave$Task", prog_10_method_3_code, 3, false)
theorem yk_X8_ready : Yk Y_X8_ready 2 := ⟨by decide +kernel, by decide +kernel, ⟨by decide, by decide⟩, by decide +kernel, by decide, by decide +kernel⟩
theorem d_X8_ready_0 : decode prog_10_method_3_code 0 = .ok (.aload_n 0, 1) := by decide +kernel
theorem d_X8_ready_1 : decode prog_10_method_3_code 1 = .ok (.iload_n 1, 1) := by decide +kernel
theorem d_X8_ready_2 : decode prog_10_method_3_code 2 = .ok (.putfield 16, 3) := by decide +kernel
theorem d_X8_ready_5 : decode prog_10_method_3_code 5 = .ok (.aload_n 0, 1) := by decide +kernel
theorem d_X8_ready_6 : decode prog_10_method_3_code 6 = .ok (.iload_n 2, 1) := by decide +kernel
theorem d_X8_ready_7 : decode prog_10_method_3_code 7 = .ok (.putfield 19, 3) := by decide +kernel
theorem d_X8_ready_10 : decode prog_10_method_3_code 10 = .ok (.aload_n 0, 1) := by decide +kernel
theorem d_X8_ready_11 : decode prog_10_method_3_code 11 = .ok (.iconst 0, 1) := by decide +kernel
theorem d_X8_ready_12 : decode prog_10_method_3_code 12 = .ok (.putfield 22, 3) := by decide +kernel
theorem d_X8_ready_15 : decode prog_10_method_3_code 15 = .ok (.return_, 1) := by decide +kernel
abbrev Y_X1_add : Yx := (⟨"TaskWeave$History", "add", "(IIII)V"⟩, prog_3_method_2_code, 5, none)
abbrev M_X1_add : Mx := ("TaskWeave$History", prog_3_method_2_code, 5, false)
theorem yk_X1_add : Yk Y_X1_add 4 := ⟨by decide +kernel, by decide +kernel, ⟨by decide, by decide⟩, by decide +kernel, by decide, by decide +kernel⟩
theorem d_X1_add_0 : decode prog_3_method_2_code 0 = .ok (.aload_n 0, 1) := by decide +kernel
theorem d_X1_add_1 : decode prog_3_method_2_code 1 = .ok (.getfield 24, 3) := by decide +kernel
theorem d_X1_add_4 : decode prog_3_method_2_code 4 = .ok (.bipush 60, 2) := by decide +kernel
theorem d_X1_add_6 : decode prog_3_method_2_code 6 = .ok (.if_icmp .ge 54, 3) := by decide +kernel
theorem d_X1_add_9 : decode prog_3_method_2_code 9 = .ok (.aload_n 0, 1) := by decide +kernel
theorem d_X1_add_10 : decode prog_3_method_2_code 10 = .ok (.getfield 9, 3) := by decide +kernel
theorem d_X1_add_13 : decode prog_3_method_2_code 13 = .ok (.aload_n 0, 1) := by decide +kernel
theorem d_X1_add_14 : decode prog_3_method_2_code 14 = .ok (.getfield 24, 3) := by decide +kernel
theorem d_X1_add_17 : decode prog_3_method_2_code 17 = .ok (.iload_n 1, 1) := by decide +kernel
theorem d_X1_add_18 : decode prog_3_method_2_code 18 = .ok (.iastore, 1) := by decide +kernel
theorem d_X1_add_19 : decode prog_3_method_2_code 19 = .ok (.aload_n 0, 1) := by decide +kernel
theorem d_X1_add_20 : decode prog_3_method_2_code 20 = .ok (.getfield 15, 3) := by decide +kernel
theorem d_X1_add_23 : decode prog_3_method_2_code 23 = .ok (.aload_n 0, 1) := by decide +kernel
theorem d_X1_add_24 : decode prog_3_method_2_code 24 = .ok (.getfield 24, 3) := by decide +kernel
theorem d_X1_add_27 : decode prog_3_method_2_code 27 = .ok (.iload_n 2, 1) := by decide +kernel
theorem d_X1_add_28 : decode prog_3_method_2_code 28 = .ok (.iastore, 1) := by decide +kernel
theorem d_X1_add_29 : decode prog_3_method_2_code 29 = .ok (.aload_n 0, 1) := by decide +kernel
theorem d_X1_add_30 : decode prog_3_method_2_code 30 = .ok (.getfield 18, 3) := by decide +kernel
theorem d_X1_add_33 : decode prog_3_method_2_code 33 = .ok (.aload_n 0, 1) := by decide +kernel
theorem d_X1_add_34 : decode prog_3_method_2_code 34 = .ok (.getfield 24, 3) := by decide +kernel
theorem d_X1_add_37 : decode prog_3_method_2_code 37 = .ok (.iload_n 3, 1) := by decide +kernel
theorem d_X1_add_38 : decode prog_3_method_2_code 38 = .ok (.iastore, 1) := by decide +kernel
theorem d_X1_add_39 : decode prog_3_method_2_code 39 = .ok (.aload_n 0, 1) := by decide +kernel
theorem d_X1_add_40 : decode prog_3_method_2_code 40 = .ok (.getfield 21, 3) := by decide +kernel
theorem d_X1_add_43 : decode prog_3_method_2_code 43 = .ok (.aload_n 0, 1) := by decide +kernel
theorem d_X1_add_44 : decode prog_3_method_2_code 44 = .ok (.getfield 24, 3) := by decide +kernel
theorem d_X1_add_47 : decode prog_3_method_2_code 47 = .ok (.iload 4, 2) := by decide +kernel
theorem d_X1_add_49 : decode prog_3_method_2_code 49 = .ok (.iastore, 1) := by decide +kernel
theorem d_X1_add_50 : decode prog_3_method_2_code 50 = .ok (.aload_n 0, 1) := by decide +kernel
theorem d_X1_add_51 : decode prog_3_method_2_code 51 = .ok (.dup, 1) := by decide +kernel
theorem d_X1_add_52 : decode prog_3_method_2_code 52 = .ok (.getfield 24, 3) := by decide +kernel
theorem d_X1_add_55 : decode prog_3_method_2_code 55 = .ok (.iconst 1, 1) := by decide +kernel
theorem d_X1_add_56 : decode prog_3_method_2_code 56 = .ok (.iadd, 1) := by decide +kernel
theorem d_X1_add_57 : decode prog_3_method_2_code 57 = .ok (.putfield 24, 3) := by decide +kernel
theorem d_X1_add_60 : decode prog_3_method_2_code 60 = .ok (.return_, 1) := by decide +kernel
abbrev Y_X1_count : Yx := (⟨"TaskWeave$History", "count", "(II)I"⟩, prog_3_method_3_code, 5, (some .int))
abbrev M_X1_count : Mx := ("TaskWeave$History", prog_3_method_3_code, 5, false)
theorem yk_X1_count : Yk Y_X1_count 2 := ⟨by decide +kernel, by decide +kernel, ⟨by decide, by decide⟩, by decide +kernel, by decide, by decide +kernel⟩
theorem d_X1_count_0 : decode prog_3_method_3_code 0 = .ok (.iconst 0, 1) := by decide +kernel
theorem d_X1_count_1 : decode prog_3_method_3_code 1 = .ok (.istore_n 3, 1) := by decide +kernel
theorem d_X1_count_2 : decode prog_3_method_3_code 2 = .ok (.iconst 0, 1) := by decide +kernel
theorem d_X1_count_3 : decode prog_3_method_3_code 3 = .ok (.istore 4, 2) := by decide +kernel
theorem d_X1_count_5 : decode prog_3_method_3_code 5 = .ok (.iload 4, 2) := by decide +kernel
theorem d_X1_count_7 : decode prog_3_method_3_code 7 = .ok (.iload_n 2, 1) := by decide +kernel
theorem d_X1_count_8 : decode prog_3_method_3_code 8 = .ok (.if_icmp .ge 37, 3) := by decide +kernel
theorem d_X1_count_11 : decode prog_3_method_3_code 11 = .ok (.iload 4, 2) := by decide +kernel
theorem d_X1_count_13 : decode prog_3_method_3_code 13 = .ok (.aload_n 0, 1) := by decide +kernel
theorem d_X1_count_14 : decode prog_3_method_3_code 14 = .ok (.getfield 24, 3) := by decide +kernel
theorem d_X1_count_17 : decode prog_3_method_3_code 17 = .ok (.if_icmp .ge 28, 3) := by decide +kernel
theorem d_X1_count_20 : decode prog_3_method_3_code 20 = .ok (.iload_n 3, 1) := by decide +kernel
theorem d_X1_count_21 : decode prog_3_method_3_code 21 = .ok (.aload_n 0, 1) := by decide +kernel
theorem d_X1_count_22 : decode prog_3_method_3_code 22 = .ok (.getfield 9, 3) := by decide +kernel
theorem d_X1_count_25 : decode prog_3_method_3_code 25 = .ok (.iload 4, 2) := by decide +kernel
theorem d_X1_count_27 : decode prog_3_method_3_code 27 = .ok (.iaload, 1) := by decide +kernel
theorem d_X1_count_28 : decode prog_3_method_3_code 28 = .ok (.iload_n 1, 1) := by decide +kernel
theorem d_X1_count_29 : decode prog_3_method_3_code 29 = .ok (.if_icmp .ne 7, 3) := by decide +kernel
theorem d_X1_count_32 : decode prog_3_method_3_code 32 = .ok (.iconst 1, 1) := by decide +kernel
theorem d_X1_count_33 : decode prog_3_method_3_code 33 = .ok (.goto 4, 3) := by decide +kernel
theorem d_X1_count_36 : decode prog_3_method_3_code 36 = .ok (.iconst 0, 1) := by decide +kernel
theorem d_X1_count_37 : decode prog_3_method_3_code 37 = .ok (.iadd, 1) := by decide +kernel
theorem d_X1_count_38 : decode prog_3_method_3_code 38 = .ok (.istore_n 3, 1) := by decide +kernel
theorem d_X1_count_39 : decode prog_3_method_3_code 39 = .ok (.iinc 4 1, 3) := by decide +kernel
theorem d_X1_count_42 : decode prog_3_method_3_code 42 = .ok (.goto (-37), 3) := by decide +kernel
theorem d_X1_count_45 : decode prog_3_method_3_code 45 = .ok (.iload_n 3, 1) := by decide +kernel
theorem d_X1_count_46 : decode prog_3_method_3_code 46 = .ok (.ireturn, 1) := by decide +kernel
abbrev Y_X1_placeOf : Yx := (⟨"TaskWeave$History", "placeOf", "(II)I"⟩, prog_3_method_4_code, 5, (some .int))
abbrev M_X1_placeOf : Mx := ("TaskWeave$History", prog_3_method_4_code, 5, false)
theorem yk_X1_placeOf : Yk Y_X1_placeOf 2 := ⟨by decide +kernel, by decide +kernel, ⟨by decide, by decide⟩, by decide +kernel, by decide, by decide +kernel⟩
theorem d_X1_placeOf_0 : decode prog_3_method_4_code 0 = .ok (.iload_n 2, 1) := by decide +kernel
theorem d_X1_placeOf_1 : decode prog_3_method_4_code 1 = .ok (.istore_n 3, 1) := by decide +kernel
theorem d_X1_placeOf_2 : decode prog_3_method_4_code 2 = .ok (.iconst 0, 1) := by decide +kernel
theorem d_X1_placeOf_3 : decode prog_3_method_4_code 3 = .ok (.istore 4, 2) := by decide +kernel
theorem d_X1_placeOf_5 : decode prog_3_method_4_code 5 = .ok (.iload 4, 2) := by decide +kernel
theorem d_X1_placeOf_7 : decode prog_3_method_4_code 7 = .ok (.aload_n 0, 1) := by decide +kernel
theorem d_X1_placeOf_8 : decode prog_3_method_4_code 8 = .ok (.getfield 24, 3) := by decide +kernel
theorem d_X1_placeOf_11 : decode prog_3_method_4_code 11 = .ok (.if_icmp .ge 30, 3) := by decide +kernel
theorem d_X1_placeOf_14 : decode prog_3_method_4_code 14 = .ok (.aload_n 0, 1) := by decide +kernel
theorem d_X1_placeOf_15 : decode prog_3_method_4_code 15 = .ok (.getfield 9, 3) := by decide +kernel
theorem d_X1_placeOf_18 : decode prog_3_method_4_code 18 = .ok (.iload 4, 2) := by decide +kernel
theorem d_X1_placeOf_20 : decode prog_3_method_4_code 20 = .ok (.iaload, 1) := by decide +kernel
theorem d_X1_placeOf_21 : decode prog_3_method_4_code 21 = .ok (.iload_n 1, 1) := by decide +kernel
theorem d_X1_placeOf_22 : decode prog_3_method_4_code 22 = .ok (.if_icmp .ne 13, 3) := by decide +kernel
theorem d_X1_placeOf_25 : decode prog_3_method_4_code 25 = .ok (.iload_n 3, 1) := by decide +kernel
theorem d_X1_placeOf_26 : decode prog_3_method_4_code 26 = .ok (.ifCond .ne 6, 3) := by decide +kernel
theorem d_X1_placeOf_29 : decode prog_3_method_4_code 29 = .ok (.iload 4, 2) := by decide +kernel
theorem d_X1_placeOf_31 : decode prog_3_method_4_code 31 = .ok (.ireturn, 1) := by decide +kernel
theorem d_X1_placeOf_32 : decode prog_3_method_4_code 32 = .ok (.iinc 3 (-1), 3) := by decide +kernel
theorem d_X1_placeOf_35 : decode prog_3_method_4_code 35 = .ok (.iinc 4 1, 3) := by decide +kernel
theorem d_X1_placeOf_38 : decode prog_3_method_4_code 38 = .ok (.goto (-33), 3) := by decide +kernel
theorem d_X1_placeOf_41 : decode prog_3_method_4_code 41 = .ok (.iconst (-1), 1) := by decide +kernel
theorem d_X1_placeOf_42 : decode prog_3_method_4_code 42 = .ok (.ireturn, 1) := by decide +kernel
theorem fk_9_7 : Fk "TaskWeave$Task" 7 900 := ⟨by decide, by decide, by decide +kernel⟩
theorem fk_9_13 : Fk "TaskWeave$Task" 13 901 := ⟨by decide, by decide, by decide +kernel⟩
theorem fk_9_16 : Fk "TaskWeave$Task" 16 902 := ⟨by decide, by decide, by decide +kernel⟩
theorem fk_9_19 : Fk "TaskWeave$Task" 19 903 := ⟨by decide, by decide, by decide +kernel⟩
theorem fk_9_22 : Fk "TaskWeave$Task" 22 904 := ⟨by decide, by decide, by decide +kernel⟩
theorem fk_2_24 : Fk "TaskWeave$History" 24 204 := ⟨by decide, by decide, by decide +kernel⟩
theorem fk_2_9 : Fk "TaskWeave$History" 9 200 := ⟨by decide, by decide, by decide +kernel⟩
theorem fk_2_15 : Fk "TaskWeave$History" 15 201 := ⟨by decide, by decide, by decide +kernel⟩
theorem fk_2_18 : Fk "TaskWeave$History" 18 202 := ⟨by decide, by decide, by decide +kernel⟩
theorem fk_2_21 : Fk "TaskWeave$History" 21 203 := ⟨by decide, by decide, by decide +kernel⟩
def f_X8_open (l0 : Nat) (l1 : Int32) (l2 : Int32) (l3 : Int32) (h : Hp) : Option Hp := ck (isO (h) (l0) 9) (bh (pI (h) 900 (l0) (l1)) (fun h2 => bh (pI (h2) 901 (l0) (l2)) (fun h3 => bh (pI (h3) 902 (l0) ((1 : Int32))) (fun h4 => bh (pI (h4) 903 (l0) (l3)) (fun h5 => bh (pI (h5) 904 (l0) ((0 : Int32))) (fun h6 => some (h6)))))))
theorem f_X8_open_ok {G : Gd} {d : Nat} (hj : 1 ≤ d) : ∀ (l0 : Nat) (l1 : Int32) (l2 : Int32) (l3 : Int32) (L : List (Nat × Value)) (h : Hp) (o : Hp), zlk L 0 = some (zrf (l0)) → zlk L 1 = some (.int (l1)) → zlk L 2 = some (.int (l2)) → zlk L 3 = some (.int (l3)) → f_X8_open l0 l1 l2 l3 h = some o → Ev G M_X8_open d 0 L [] h (Ret Y_X8_open none o) := by
  intro l0 l1 l2 l3 L h o g0 g1 g2 g3 e
  unfold f_X8_open at e
  refine g_ald_n d_X8_open_0 rfl g0 ?_
  refine r_iload_n d_X8_open_1 rfl g1 ?_
  obtain ⟨k1, e⟩ := ckd e
  refine g_putI d_X8_open_2 (f := 900) k1 fk_9_7 rfl (Or.inl rfl) ⟨rfl, rfl⟩ ?_
  obtain ⟨_, rfl, e⟩ := bhd e
  refine g_ald_n d_X8_open_5 rfl g0 ?_
  refine r_iload_n d_X8_open_6 rfl g2 ?_
  refine g_putI d_X8_open_7 (f := 901) k1 fk_9_13 rfl (Or.inl rfl) ⟨rfl, rfl⟩ ?_
  obtain ⟨_, rfl, e⟩ := bhd e
  refine g_ald_n d_X8_open_10 rfl g0 ?_
  refine r_iconst d_X8_open_11 (v := (1 : Int32)) (by decide +kernel) ?_
  refine g_putI d_X8_open_12 (f := 902) k1 fk_9_16 rfl (Or.inl rfl) ⟨rfl, rfl⟩ ?_
  obtain ⟨_, rfl, e⟩ := bhd e
  refine g_ald_n d_X8_open_15 rfl g0 ?_
  refine r_iload_n d_X8_open_16 rfl g3 ?_
  refine g_putI d_X8_open_17 (f := 903) k1 fk_9_19 rfl (Or.inl rfl) ⟨rfl, rfl⟩ ?_
  obtain ⟨_, rfl, e⟩ := bhd e
  refine g_ald_n d_X8_open_20 rfl g0 ?_
  refine r_iconst d_X8_open_21 (v := (0 : Int32)) (by decide +kernel) ?_
  refine g_putI d_X8_open_22 (f := 904) k1 fk_9_22 rfl (Or.inl rfl) ⟨rfl, rfl⟩ ?_
  obtain ⟨_, rfl, e⟩ := bhd e
  cases e
  exact g_vret d_X8_open_25 rfl

theorem c_X8_open {G : Gd} {j : Nat} (hj : 1 ≤ j) {l0 : Nat} {l1 : Int32} {l2 : Int32} {l3 : Int32} {h : Hp} {o : Hp} (e : f_X8_open l0 l1 l2 l3 h = some o) : Cal G j Y_X8_open [zrf (l0), .int (l1), .int (l2), .int (l3)] h none o := Cal.of (n := 0) (I := false) (by decide +kernel) (by decide) (by simp [lg_sl, zrf_cat, cat_int, cat_long]) (f_X8_open_ok hj _ _ _ _ _ h o (by simp [lv_args, zlk, zrf_cat, cat_int, cat_long]) (by simp [lv_args, zlk, zrf_cat, cat_int, cat_long]) (by simp [lv_args, zlk, zrf_cat, cat_int, cat_long]) (by simp [lv_args, zlk, zrf_cat, cat_int, cat_long]) e)
def f_X8_ready (l0 : Nat) (l1 : Int32) (l2 : Int32) (h : Hp) : Option Hp := ck (isO (h) (l0) 9) (bh (pI (h) 902 (l0) (l1)) (fun h2 => bh (pI (h2) 903 (l0) (l2)) (fun h3 => bh (pI (h3) 904 (l0) ((0 : Int32))) (fun h4 => some (h4)))))
theorem f_X8_ready_ok {G : Gd} {d : Nat} (hj : 1 ≤ d) : ∀ (l0 : Nat) (l1 : Int32) (l2 : Int32) (L : List (Nat × Value)) (h : Hp) (o : Hp), zlk L 0 = some (zrf (l0)) → zlk L 1 = some (.int (l1)) → zlk L 2 = some (.int (l2)) → f_X8_ready l0 l1 l2 h = some o → Ev G M_X8_ready d 0 L [] h (Ret Y_X8_ready none o) := by
  intro l0 l1 l2 L h o g0 g1 g2 e
  unfold f_X8_ready at e
  refine g_ald_n d_X8_ready_0 rfl g0 ?_
  refine r_iload_n d_X8_ready_1 rfl g1 ?_
  obtain ⟨k1, e⟩ := ckd e
  refine g_putI d_X8_ready_2 (f := 902) k1 fk_9_16 rfl (Or.inl rfl) ⟨rfl, rfl⟩ ?_
  obtain ⟨_, rfl, e⟩ := bhd e
  refine g_ald_n d_X8_ready_5 rfl g0 ?_
  refine r_iload_n d_X8_ready_6 rfl g2 ?_
  refine g_putI d_X8_ready_7 (f := 903) k1 fk_9_19 rfl (Or.inl rfl) ⟨rfl, rfl⟩ ?_
  obtain ⟨_, rfl, e⟩ := bhd e
  refine g_ald_n d_X8_ready_10 rfl g0 ?_
  refine r_iconst d_X8_ready_11 (v := (0 : Int32)) (by decide +kernel) ?_
  refine g_putI d_X8_ready_12 (f := 904) k1 fk_9_22 rfl (Or.inl rfl) ⟨rfl, rfl⟩ ?_
  obtain ⟨_, rfl, e⟩ := bhd e
  cases e
  exact g_vret d_X8_ready_15 rfl

theorem c_X8_ready {G : Gd} {j : Nat} (hj : 1 ≤ j) {l0 : Nat} {l1 : Int32} {l2 : Int32} {h : Hp} {o : Hp} (e : f_X8_ready l0 l1 l2 h = some o) : Cal G j Y_X8_ready [zrf (l0), .int (l1), .int (l2)] h none o := Cal.of (n := 0) (I := false) (by decide +kernel) (by decide) (by simp [lg_sl, zrf_cat, cat_int, cat_long]) (f_X8_ready_ok hj _ _ _ _ h o (by simp [lv_args, zlk, zrf_cat, cat_int, cat_long]) (by simp [lv_args, zlk, zrf_cat, cat_int, cat_long]) (by simp [lv_args, zlk, zrf_cat, cat_int, cat_long]) e)
def f_X1_add (l0 : Nat) (l1 : Int32) (l2 : Int32) (l3 : Int32) (l4 : Int32) (h : Hp) : Option Hp := ck (isO (h) (l0) 2) (if ((60 : Int32)) ≤ (zI (h) 204 (l0)) then (some (h)) else (ck (isO (h) (zR (h) 200 (l0)) 22) (ck (inR (zI (h) 204 (l0)) (zL (h) (zR (h) 200 (l0)))) (bh (pE (h) (zR (h) 200 (l0)) (zI (h) 204 (l0)).toNatClampNeg (l1)) (fun h5 => ck (isO (h5) (zR (h5) 201 (l0)) 22) (ck (inR (zI (h5) 204 (l0)) (zL (h5) (zR (h5) 201 (l0)))) (bh (pE (h5) (zR (h5) 201 (l0)) (zI (h5) 204 (l0)).toNatClampNeg (l2)) (fun h8 => ck (isO (h8) (zR (h8) 202 (l0)) 22) (ck (inR (zI (h8) 204 (l0)) (zL (h8) (zR (h8) 202 (l0)))) (bh (pE (h8) (zR (h8) 202 (l0)) (zI (h8) 204 (l0)).toNatClampNeg (l3)) (fun h11 => ck (isO (h11) (zR (h11) 203 (l0)) 22) (ck (inR (zI (h11) 204 (l0)) (zL (h11) (zR (h11) 203 (l0)))) (bh (pE (h11) (zR (h11) 203 (l0)) (zI (h11) 204 (l0)).toNatClampNeg (l4)) (fun h14 => bh (pI (h14) 204 (l0) ((zI (h14) 204 (l0)) + ((1 : Int32)))) (fun h15 => some (h15))))))))))))))))
theorem f_X1_add_ok {G : Gd} {d : Nat} (hj : 1 ≤ d) : ∀ (l0 : Nat) (l1 : Int32) (l2 : Int32) (l3 : Int32) (l4 : Int32) (L : List (Nat × Value)) (h : Hp) (o : Hp), zlk L 0 = some (zrf (l0)) → zlk L 1 = some (.int (l1)) → zlk L 2 = some (.int (l2)) → zlk L 3 = some (.int (l3)) → zlk L 4 = some (.int (l4)) → f_X1_add l0 l1 l2 l3 l4 h = some o → Ev G M_X1_add d 0 L [] h (Ret Y_X1_add none o) := by
  intro l0 l1 l2 l3 l4 L h o g0 g1 g2 g3 g4 e
  unfold f_X1_add at e
  refine g_ald_n d_X1_add_0 rfl g0 ?_
  obtain ⟨k1, e⟩ := ckd e
  refine g_getI d_X1_add_1 (f := 204) k1 fk_2_24 rfl rfl ?_
  refine r_bipush d_X1_add_4 (v := (60 : Int32)) (by decide +kernel) ?_
  refine r_icmp_ge d_X1_add_6 (tgt := 60) (by decide) (fun c2 => ?_) (fun c2 => ?_)
  · replace e := (if_pos c2).symm.trans e
    cases e
    exact g_vret d_X1_add_60 rfl
  · replace e := (if_neg c2).symm.trans e
    refine g_ald_n d_X1_add_9 rfl g0 ?_
    refine g_getR d_X1_add_10 (f := 200) k1 fk_2_9 rfl rfl ?_
    refine g_ald_n d_X1_add_13 rfl g0 ?_
    refine g_getI d_X1_add_14 (f := 204) k1 fk_2_24 rfl rfl ?_
    refine r_iload_n d_X1_add_17 rfl g1 ?_
    obtain ⟨k3, e⟩ := ckd e
    obtain ⟨k4, e⟩ := ckd e
    refine g_iast d_X1_add_18 k3 k4 ?_
    obtain ⟨_, rfl, e⟩ := bhd e
    refine g_ald_n d_X1_add_19 rfl g0 ?_
    refine g_getR d_X1_add_20 (f := 201) k1 fk_2_15 rfl rfl ?_
    refine g_ald_n d_X1_add_23 rfl g0 ?_
    refine g_getI d_X1_add_24 (f := 204) k1 fk_2_24 rfl rfl ?_
    refine r_iload_n d_X1_add_27 rfl g2 ?_
    obtain ⟨k6, e⟩ := ckd e
    obtain ⟨k7, e⟩ := ckd e
    refine g_iast d_X1_add_28 k6 k7 ?_
    obtain ⟨_, rfl, e⟩ := bhd e
    refine g_ald_n d_X1_add_29 rfl g0 ?_
    refine g_getR d_X1_add_30 (f := 202) k1 fk_2_18 rfl rfl ?_
    refine g_ald_n d_X1_add_33 rfl g0 ?_
    refine g_getI d_X1_add_34 (f := 204) k1 fk_2_24 rfl rfl ?_
    refine r_iload_n d_X1_add_37 rfl g3 ?_
    obtain ⟨k9, e⟩ := ckd e
    obtain ⟨k10, e⟩ := ckd e
    refine g_iast d_X1_add_38 k9 k10 ?_
    obtain ⟨_, rfl, e⟩ := bhd e
    refine g_ald_n d_X1_add_39 rfl g0 ?_
    refine g_getR d_X1_add_40 (f := 203) k1 fk_2_21 rfl rfl ?_
    refine g_ald_n d_X1_add_43 rfl g0 ?_
    refine g_getI d_X1_add_44 (f := 204) k1 fk_2_24 rfl rfl ?_
    refine r_iload d_X1_add_47 g4 ?_
    obtain ⟨k12, e⟩ := ckd e
    obtain ⟨k13, e⟩ := ckd e
    refine g_iast d_X1_add_49 k12 k13 ?_
    obtain ⟨_, rfl, e⟩ := bhd e
    refine g_ald_n d_X1_add_50 rfl g0 ?_
    refine r_dup d_X1_add_51 (zrf_cat _) ?_
    refine g_getI d_X1_add_52 (f := 204) k1 fk_2_24 rfl rfl ?_
    refine r_iconst d_X1_add_55 (v := (1 : Int32)) (by decide +kernel) ?_
    refine r_iadd d_X1_add_56 ?_
    refine g_putI d_X1_add_57 (f := 204) k1 fk_2_24 rfl (Or.inl rfl) ⟨rfl, rfl⟩ ?_
    obtain ⟨_, rfl, e⟩ := bhd e
    cases e
    exact g_vret d_X1_add_60 rfl

theorem c_X1_add {G : Gd} {j : Nat} (hj : 1 ≤ j) {l0 : Nat} {l1 : Int32} {l2 : Int32} {l3 : Int32} {l4 : Int32} {h : Hp} {o : Hp} (e : f_X1_add l0 l1 l2 l3 l4 h = some o) : Cal G j Y_X1_add [zrf (l0), .int (l1), .int (l2), .int (l3), .int (l4)] h none o := Cal.of (n := 0) (I := false) (by decide +kernel) (by decide) (by simp [lg_sl, zrf_cat, cat_int, cat_long]) (f_X1_add_ok hj _ _ _ _ _ _ h o (by simp [lv_args, zlk, zrf_cat, cat_int, cat_long]) (by simp [lv_args, zlk, zrf_cat, cat_int, cat_long]) (by simp [lv_args, zlk, zrf_cat, cat_int, cat_long]) (by simp [lv_args, zlk, zrf_cat, cat_int, cat_long]) (by simp [lv_args, zlk, zrf_cat, cat_int, cat_long]) e)
def f_X1_count_37 (K5 : Nat → Int32 → Int32 → Int32 → Int32 → Hp → Option (Int32 × Hp)) (s0 : Int32) (s1 : Int32) (l0 : Nat) (l1 : Int32) (l2 : Int32) (l4 : Int32) (h : Hp) : Option (Int32 × Hp) := bh ((s0) + (s1)) (fun x7 => bh ((l4) + (1 : Int32)) (fun x8 => K5 (l0) (l1) (l2) (x7) (x8) (h)))
theorem f_X1_count_37_ok {G : Gd} {d : Nat} (K5 : Nat → Int32 → Int32 → Int32 → Int32 → Hp → Option (Int32 × Hp)) (hj : 1 ≤ d) (hK5 : ∀ (l0 : Nat) (l1 : Int32) (l2 : Int32) (l3 : Int32) (l4 : Int32) (L : List (Nat × Value)) (h : Hp) (o : (Int32 × Hp)), zlk L 0 = some (zrf (l0)) → zlk L 1 = some (.int (l1)) → zlk L 2 = some (.int (l2)) → zlk L 3 = some (.int (l3)) → zlk L 4 = some (.int (l4)) → K5 l0 l1 l2 l3 l4 h = some o → Ev G M_X1_count d 5 L [] h (Ret Y_X1_count (some (.int o.1)) o.2)) : ∀ (s0 : Int32) (s1 : Int32) (l0 : Nat) (l1 : Int32) (l2 : Int32) (l4 : Int32) (L : List (Nat × Value)) (h : Hp) (o : (Int32 × Hp)), zlk L 0 = some (zrf (l0)) → zlk L 1 = some (.int (l1)) → zlk L 2 = some (.int (l2)) → zlk L 4 = some (.int (l4)) → f_X1_count_37 K5 s0 s1 l0 l1 l2 l4 h = some o → Ev G M_X1_count d 37 L [.int (s1), .int (s0)] h (Ret Y_X1_count (some (.int o.1)) o.2) := by
  intro s0 s1 l0 l1 l2 l4 L h o g0 g1 g2 g4 e
  unfold f_X1_count_37 at e
  refine r_iadd d_X1_count_37 ?_
  obtain ⟨_, rfl, e⟩ := bhd e
  refine s_istore_n d_X1_count_38 rfl (by decide) (fun L g3 gK => ?_)
  replace g0 := gK _ _ (by decide) (Or.inr (zrf_cat _)) g0
  replace g1 := gK _ _ (by decide) (Or.inr rfl) g1
  replace g2 := gK _ _ (by decide) (Or.inr rfl) g2
  replace g4 := gK _ _ (by decide) (Or.inr rfl) g4
  obtain ⟨_, rfl, e⟩ := bhd e
  refine s_iinc d_X1_count_39 g4 (w := (1 : Int32)) (by decide +kernel) (by decide) (fun L g4 gK => ?_)
  replace g0 := gK _ _ (by decide) (Or.inr (zrf_cat _)) g0
  replace g1 := gK _ _ (by decide) (Or.inr rfl) g1
  replace g2 := gK _ _ (by decide) (Or.inr rfl) g2
  replace g3 := gK _ _ (by decide) (Or.inr rfl) g3
  refine r_goto d_X1_count_42 (tgt := 5) (by decide) ?_
  exact hK5 _ _ _ _ _ _ _ _ g0 g1 g2 g3 g4 e

def f_X1_count_5 : Nat → Nat → Int32 → Int32 → Int32 → Int32 → Hp → Option (Int32 × Hp)
  | 0, _, _, _, _, _, _ => none
  | n + 1, l0, l1, l2, l3, l4, h => if (l2) ≤ (l4) then (some (l3, h)) else (ck (isO (h) (l0) 2) (if (zI (h) 204 (l0)) ≤ (l4) then (some (l3, h)) else (ck (isO (h) (zR (h) 200 (l0)) 22) (ck (inR (l4) (zL (h) (zR (h) 200 (l0)))) (if (zE (h) (zR (h) 200 (l0)) (l4).toNatClampNeg) = (l1) then (f_X1_count_37 (f_X1_count_5 n ) (l3) ((1 : Int32)) (l0) (l1) (l2) (l4) (h)) else (f_X1_count_37 (f_X1_count_5 n ) (l3) ((0 : Int32)) (l0) (l1) (l2) (l4) (h)))))))
theorem f_X1_count_5_ok {G : Gd} {d : Nat} (hj : 1 ≤ d) : ∀ (n : Nat) (l0 : Nat) (l1 : Int32) (l2 : Int32) (l3 : Int32) (l4 : Int32) (L : List (Nat × Value)) (h : Hp) (o : (Int32 × Hp)), zlk L 0 = some (zrf (l0)) → zlk L 1 = some (.int (l1)) → zlk L 2 = some (.int (l2)) → zlk L 3 = some (.int (l3)) → zlk L 4 = some (.int (l4)) → f_X1_count_5 n l0 l1 l2 l3 l4 h = some o → Ev G M_X1_count d 5 L [] h (Ret Y_X1_count (some (.int o.1)) o.2) := by
  intro n
  induction n with
  | zero =>
    intro l0 l1 l2 l3 l4 L h o g0 g1 g2 g3 g4 e
    cases e
  | succ n ih =>
    intro l0 l1 l2 l3 l4 L h o g0 g1 g2 g3 g4 e
    unfold f_X1_count_5 at e
    refine r_iload d_X1_count_5 g4 ?_
    refine r_iload_n d_X1_count_7 rfl g2 ?_
    refine r_icmp_ge d_X1_count_8 (tgt := 45) (by decide) (fun c1 => ?_) (fun c1 => ?_)
    · replace e := (if_pos c1).symm.trans e
      refine r_iload_n d_X1_count_45 rfl g3 ?_
      cases e
      exact g_iret d_X1_count_46 rfl rfl
    · replace e := (if_neg c1).symm.trans e
      refine r_iload d_X1_count_11 g4 ?_
      refine g_ald_n d_X1_count_13 rfl g0 ?_
      obtain ⟨k2, e⟩ := ckd e
      refine g_getI d_X1_count_14 (f := 204) k2 fk_2_24 rfl rfl ?_
      refine r_icmp_ge d_X1_count_17 (tgt := 45) (by decide) (fun c3 => ?_) (fun c3 => ?_)
      · replace e := (if_pos c3).symm.trans e
        refine r_iload_n d_X1_count_45 rfl g3 ?_
        cases e
        exact g_iret d_X1_count_46 rfl rfl
      · replace e := (if_neg c3).symm.trans e
        refine r_iload_n d_X1_count_20 rfl g3 ?_
        refine g_ald_n d_X1_count_21 rfl g0 ?_
        refine g_getR d_X1_count_22 (f := 200) k2 fk_2_9 rfl rfl ?_
        refine r_iload d_X1_count_25 g4 ?_
        obtain ⟨k4, e⟩ := ckd e
        obtain ⟨k5, e⟩ := ckd e
        refine g_iald d_X1_count_27 k4 k5 rfl ?_
        refine r_iload_n d_X1_count_28 rfl g1 ?_
        refine r_icmp_ne d_X1_count_29 (tgt := 36) (by decide) (fun c6 => ?_) (fun c6 => ?_)
        · replace e := (if_neg c6).symm.trans e
          refine r_iconst d_X1_count_36 (v := (0 : Int32)) (by decide +kernel) ?_
          exact f_X1_count_37_ok _ hj ih _ _ _ _ _ _ _ _ _ g0 g1 g2 g4 e
        · replace e := (if_pos c6).symm.trans e
          refine r_iconst d_X1_count_32 (v := (1 : Int32)) (by decide +kernel) ?_
          refine r_goto d_X1_count_33 (tgt := 37) (by decide) ?_
          exact f_X1_count_37_ok _ hj ih _ _ _ _ _ _ _ _ _ g0 g1 g2 g4 e

def f_X1_count (l0 : Nat) (l1 : Int32) (l2 : Int32) (h : Hp) : Option (Int32 × Hp) := f_X1_count_5 fz (l0) (l1) (l2) ((0 : Int32)) ((0 : Int32)) (h)
theorem f_X1_count_ok {G : Gd} {d : Nat} (hj : 1 ≤ d) : ∀ (l0 : Nat) (l1 : Int32) (l2 : Int32) (L : List (Nat × Value)) (h : Hp) (o : (Int32 × Hp)), zlk L 0 = some (zrf (l0)) → zlk L 1 = some (.int (l1)) → zlk L 2 = some (.int (l2)) → f_X1_count l0 l1 l2 h = some o → Ev G M_X1_count d 0 L [] h (Ret Y_X1_count (some (.int o.1)) o.2) := by
  intro l0 l1 l2 L h o g0 g1 g2 e
  unfold f_X1_count at e
  refine r_iconst d_X1_count_0 (v := (0 : Int32)) (by decide +kernel) ?_
  refine s_istore_n d_X1_count_1 rfl (by decide) (fun L g3 gK => ?_)
  replace g0 := gK _ _ (by decide) (Or.inr (zrf_cat _)) g0
  replace g1 := gK _ _ (by decide) (Or.inr rfl) g1
  replace g2 := gK _ _ (by decide) (Or.inr rfl) g2
  refine r_iconst d_X1_count_2 (v := (0 : Int32)) (by decide +kernel) ?_
  refine s_istore d_X1_count_3 (by decide) (fun L g4 gK => ?_)
  replace g0 := gK _ _ (by decide) (Or.inr (zrf_cat _)) g0
  replace g1 := gK _ _ (by decide) (Or.inr rfl) g1
  replace g2 := gK _ _ (by decide) (Or.inr rfl) g2
  replace g3 := gK _ _ (by decide) (Or.inr rfl) g3
  exact f_X1_count_5_ok hj _ _ _ _ _ _ _ _ _ g0 g1 g2 g3 g4 e

theorem c_X1_count {G : Gd} {j : Nat} (hj : 1 ≤ j) {l0 : Nat} {l1 : Int32} {l2 : Int32} {h : Hp} {o : (Int32 × Hp)} (e : f_X1_count l0 l1 l2 h = some o) : Cal G j Y_X1_count [zrf (l0), .int (l1), .int (l2)] h (some (.int o.1)) o.2 := Cal.of (n := 0) (I := false) (by decide +kernel) (by decide) (by simp [lg_sl, zrf_cat, cat_int, cat_long]) (f_X1_count_ok hj _ _ _ _ h o (by simp [lv_args, zlk, zrf_cat, cat_int, cat_long]) (by simp [lv_args, zlk, zrf_cat, cat_int, cat_long]) (by simp [lv_args, zlk, zrf_cat, cat_int, cat_long]) e)
def f_X1_placeOf_35 (K5 : Nat → Int32 → Int32 → Int32 → Hp → Option (Int32 × Hp)) (l0 : Nat) (l1 : Int32) (l3 : Int32) (l4 : Int32) (h : Hp) : Option (Int32 × Hp) := bh ((l4) + (1 : Int32)) (fun x8 => K5 (l0) (l1) (l3) (x8) (h))
theorem f_X1_placeOf_35_ok {G : Gd} {d : Nat} (K5 : Nat → Int32 → Int32 → Int32 → Hp → Option (Int32 × Hp)) (hj : 1 ≤ d) (hK5 : ∀ (l0 : Nat) (l1 : Int32) (l3 : Int32) (l4 : Int32) (L : List (Nat × Value)) (h : Hp) (o : (Int32 × Hp)), zlk L 0 = some (zrf (l0)) → zlk L 1 = some (.int (l1)) → zlk L 3 = some (.int (l3)) → zlk L 4 = some (.int (l4)) → K5 l0 l1 l3 l4 h = some o → Ev G M_X1_placeOf d 5 L [] h (Ret Y_X1_placeOf (some (.int o.1)) o.2)) : ∀ (l0 : Nat) (l1 : Int32) (l3 : Int32) (l4 : Int32) (L : List (Nat × Value)) (h : Hp) (o : (Int32 × Hp)), zlk L 0 = some (zrf (l0)) → zlk L 1 = some (.int (l1)) → zlk L 3 = some (.int (l3)) → zlk L 4 = some (.int (l4)) → f_X1_placeOf_35 K5 l0 l1 l3 l4 h = some o → Ev G M_X1_placeOf d 35 L [] h (Ret Y_X1_placeOf (some (.int o.1)) o.2) := by
  intro l0 l1 l3 l4 L h o g0 g1 g3 g4 e
  unfold f_X1_placeOf_35 at e
  obtain ⟨_, rfl, e⟩ := bhd e
  refine s_iinc d_X1_placeOf_35 g4 (w := (1 : Int32)) (by decide +kernel) (by decide) (fun L g4 gK => ?_)
  replace g0 := gK _ _ (by decide) (Or.inr (zrf_cat _)) g0
  replace g1 := gK _ _ (by decide) (Or.inr rfl) g1
  replace g3 := gK _ _ (by decide) (Or.inr rfl) g3
  refine r_goto d_X1_placeOf_38 (tgt := 5) (by decide) ?_
  exact hK5 _ _ _ _ _ _ _ g0 g1 g3 g4 e

def f_X1_placeOf_5 : Nat → Nat → Int32 → Int32 → Int32 → Hp → Option (Int32 × Hp)
  | 0, _, _, _, _, _ => none
  | n + 1, l0, l1, l3, l4, h => ck (isO (h) (l0) 2) (if (zI (h) 204 (l0)) ≤ (l4) then (some ((-1 : Int32), h)) else (ck (isO (h) (zR (h) 200 (l0)) 22) (ck (inR (l4) (zL (h) (zR (h) 200 (l0)))) (if (zE (h) (zR (h) 200 (l0)) (l4).toNatClampNeg) = (l1) then (if (l3) = (0) then (some (l4, h)) else (bh ((l3) + (-1 : Int32)) (fun x7 => f_X1_placeOf_35 (f_X1_placeOf_5 n ) (l0) (l1) (x7) (l4) (h)))) else (f_X1_placeOf_35 (f_X1_placeOf_5 n ) (l0) (l1) (l3) (l4) (h))))))
theorem f_X1_placeOf_5_ok {G : Gd} {d : Nat} (hj : 1 ≤ d) : ∀ (n : Nat) (l0 : Nat) (l1 : Int32) (l3 : Int32) (l4 : Int32) (L : List (Nat × Value)) (h : Hp) (o : (Int32 × Hp)), zlk L 0 = some (zrf (l0)) → zlk L 1 = some (.int (l1)) → zlk L 3 = some (.int (l3)) → zlk L 4 = some (.int (l4)) → f_X1_placeOf_5 n l0 l1 l3 l4 h = some o → Ev G M_X1_placeOf d 5 L [] h (Ret Y_X1_placeOf (some (.int o.1)) o.2) := by
  intro n
  induction n with
  | zero =>
    intro l0 l1 l3 l4 L h o g0 g1 g3 g4 e
    cases e
  | succ n ih =>
    intro l0 l1 l3 l4 L h o g0 g1 g3 g4 e
    unfold f_X1_placeOf_5 at e
    refine r_iload d_X1_placeOf_5 g4 ?_
    refine g_ald_n d_X1_placeOf_7 rfl g0 ?_
    obtain ⟨k1, e⟩ := ckd e
    refine g_getI d_X1_placeOf_8 (f := 204) k1 fk_2_24 rfl rfl ?_
    refine r_icmp_ge d_X1_placeOf_11 (tgt := 41) (by decide) (fun c2 => ?_) (fun c2 => ?_)
    · replace e := (if_pos c2).symm.trans e
      refine r_iconst d_X1_placeOf_41 (v := (-1 : Int32)) (by decide +kernel) ?_
      cases e
      exact g_iret d_X1_placeOf_42 rfl rfl
    · replace e := (if_neg c2).symm.trans e
      refine g_ald_n d_X1_placeOf_14 rfl g0 ?_
      refine g_getR d_X1_placeOf_15 (f := 200) k1 fk_2_9 rfl rfl ?_
      refine r_iload d_X1_placeOf_18 g4 ?_
      obtain ⟨k3, e⟩ := ckd e
      obtain ⟨k4, e⟩ := ckd e
      refine g_iald d_X1_placeOf_20 k3 k4 rfl ?_
      refine r_iload_n d_X1_placeOf_21 rfl g1 ?_
      refine r_icmp_ne d_X1_placeOf_22 (tgt := 35) (by decide) (fun c5 => ?_) (fun c5 => ?_)
      · replace e := (if_neg c5).symm.trans e
        exact f_X1_placeOf_35_ok _ hj ih _ _ _ _ _ _ _ g0 g1 g3 g4 e
      · replace e := (if_pos c5).symm.trans e
        refine r_iload_n d_X1_placeOf_25 rfl g3 ?_
        refine r_if_ne d_X1_placeOf_26 (tgt := 32) (by decide) (fun c6 => ?_) (fun c6 => ?_)
        · replace e := (if_neg c6).symm.trans e
          obtain ⟨_, rfl, e⟩ := bhd e
          refine s_iinc d_X1_placeOf_32 g3 (w := (-1 : Int32)) (by decide +kernel) (by decide) (fun L g3 gK => ?_)
          replace g0 := gK _ _ (by decide) (Or.inr (zrf_cat _)) g0
          replace g1 := gK _ _ (by decide) (Or.inr rfl) g1
          replace g4 := gK _ _ (by decide) (Or.inr rfl) g4
          exact f_X1_placeOf_35_ok _ hj ih _ _ _ _ _ _ _ g0 g1 g3 g4 e
        · replace e := (if_pos c6).symm.trans e
          refine r_iload d_X1_placeOf_29 g4 ?_
          cases e
          exact g_iret d_X1_placeOf_31 rfl rfl

def f_X1_placeOf (l0 : Nat) (l1 : Int32) (l2 : Int32) (h : Hp) : Option (Int32 × Hp) := f_X1_placeOf_5 fz (l0) (l1) (l2) ((0 : Int32)) (h)
theorem f_X1_placeOf_ok {G : Gd} {d : Nat} (hj : 1 ≤ d) : ∀ (l0 : Nat) (l1 : Int32) (l2 : Int32) (L : List (Nat × Value)) (h : Hp) (o : (Int32 × Hp)), zlk L 0 = some (zrf (l0)) → zlk L 1 = some (.int (l1)) → zlk L 2 = some (.int (l2)) → f_X1_placeOf l0 l1 l2 h = some o → Ev G M_X1_placeOf d 0 L [] h (Ret Y_X1_placeOf (some (.int o.1)) o.2) := by
  intro l0 l1 l2 L h o g0 g1 g2 e
  unfold f_X1_placeOf at e
  refine r_iload_n d_X1_placeOf_0 rfl g2 ?_
  refine s_istore_n d_X1_placeOf_1 rfl (by decide) (fun L g3 gK => ?_)
  replace g0 := gK _ _ (by decide) (Or.inr (zrf_cat _)) g0
  replace g1 := gK _ _ (by decide) (Or.inr rfl) g1
  refine r_iconst d_X1_placeOf_2 (v := (0 : Int32)) (by decide +kernel) ?_
  refine s_istore d_X1_placeOf_3 (by decide) (fun L g4 gK => ?_)
  replace g0 := gK _ _ (by decide) (Or.inr (zrf_cat _)) g0
  replace g1 := gK _ _ (by decide) (Or.inr rfl) g1
  replace g3 := gK _ _ (by decide) (Or.inr rfl) g3
  exact f_X1_placeOf_5_ok hj _ _ _ _ _ _ _ _ g0 g1 g3 g4 e

theorem c_X1_placeOf {G : Gd} {j : Nat} (hj : 1 ≤ j) {l0 : Nat} {l1 : Int32} {l2 : Int32} {h : Hp} {o : (Int32 × Hp)} (e : f_X1_placeOf l0 l1 l2 h = some o) : Cal G j Y_X1_placeOf [zrf (l0), .int (l1), .int (l2)] h (some (.int o.1)) o.2 := Cal.of (n := 0) (I := false) (by decide +kernel) (by decide) (by simp [lg_sl, zrf_cat, cat_int, cat_long]) (f_X1_placeOf_ok hj _ _ _ _ h o (by simp [lv_args, zlk, zrf_cat, cat_int, cat_long]) (by simp [lv_args, zlk, zrf_cat, cat_int, cat_long]) (by simp [lv_args, zlk, zrf_cat, cat_int, cat_long]) e)
