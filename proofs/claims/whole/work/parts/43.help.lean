abbrev Y_L_program : Yx := (⟨"TaskWeaveLaw", "program", "(LTaskWeave;I[J)I"⟩, method_3_code, 4, (some .int))
abbrev M_L_program : Mx := ("TaskWeaveLaw", method_3_code, 4, false)
abbrev hh_program : List (Nat × Nat × Nat × Nat) := [(0, 9, 12, 13), (0, 9, 15, 15)]
theorem yw_L_program : Yw Y_L_program hh_program 3 := ⟨by decide +kernel, by decide +kernel, ⟨by decide, by decide⟩, by decide +kernel, by decide⟩
theorem d_L_program_0 : decode method_3_code 0 = .ok (.aload_n 2, 1) := by decide +kernel
theorem d_L_program_1 : decode method_3_code 1 = .ok (.iconst 0, 1) := by decide +kernel
theorem d_L_program_2 : decode method_3_code 2 = .ok (.aload_n 0, 1) := by decide +kernel
theorem d_L_program_3 : decode method_3_code 3 = .ok (.iload_n 1, 1) := by decide +kernel
theorem d_L_program_4 : decode method_3_code 4 = .ok (.invokevirtual 7, 3) := by decide +kernel
theorem d_L_program_7 : decode method_3_code 7 = .ok (.i2l, 1) := by decide +kernel
theorem d_L_program_8 : decode method_3_code 8 = .ok (.lastore, 1) := by decide +kernel
theorem d_L_program_9 : decode method_3_code 9 = .ok (.goto 9, 3) := by decide +kernel
theorem d_L_program_12 : decode method_3_code 12 = .ok (.astore_n 3, 1) := by decide +kernel
theorem d_L_program_13 : decode method_3_code 13 = .ok (.iconst 1, 1) := by decide +kernel
theorem d_L_program_14 : decode method_3_code 14 = .ok (.ireturn, 1) := by decide +kernel
theorem d_L_program_15 : decode method_3_code 15 = .ok (.astore_n 3, 1) := by decide +kernel
theorem d_L_program_16 : decode method_3_code 16 = .ok (.iconst 2, 1) := by decide +kernel
theorem d_L_program_17 : decode method_3_code 17 = .ok (.ireturn, 1) := by decide +kernel
theorem d_L_program_18 : decode method_3_code 18 = .ok (.iconst 0, 1) := by decide +kernel
theorem d_L_program_19 : decode method_3_code 19 = .ok (.ireturn, 1) := by decide +kernel
theorem tk_program_17 : Tk "TaskWeave" prog_1_method_3_code 17 "java/lang/IndexOutOfBoundsException" := ⟨46, 48, 50, 7, 2, .ldc 48, "no such program", "java/lang/RuntimeException", Bundle.six, ⟨by decide +kernel, by decide +kernel, by decide +kernel, by decide +kernel⟩, ⟨by decide +kernel, by decide +kernel⟩, ⟨by decide +kernel, by decide +kernel, by decide +kernel⟩, by decide +kernel, by decide +kernel, by decide +kernel, Or.inl ⟨rfl, rfl⟩, by decide +kernel, by decide +kernel, by decide +kernel⟩
theorem tk_program_39 : Tk "TaskWeave" prog_1_method_3_code 39 "java/lang/IllegalArgumentException" := ⟨57, 59, 61, 7, 2, .ldc 59, "the text has a fault", "java/lang/RuntimeException", Bundle.six, ⟨by decide +kernel, by decide +kernel, by decide +kernel, by decide +kernel⟩, ⟨by decide +kernel, by decide +kernel⟩, ⟨by decide +kernel, by decide +kernel, by decide +kernel⟩, by decide +kernel, by decide +kernel, by decide +kernel, Or.inl ⟨rfl, rfl⟩, by decide +kernel, by decide +kernel, by decide +kernel⟩
theorem vk_L_program : Vk "TaskWeaveLaw" 7 1 11 Y_X10_program := ⟨yk_X10_program, by decide +kernel, by decide +kernel, by decide +kernel, by decide⟩
def f_L_program (l0 : Nat) (l1 : Int32) (l2 : Nat) (h : Hp) : Option (Int32 × Hp) := ck (isO h l0 11) ((f_X10_program l0 l1 h).bind (fun q => match q with
  | .inl q => ck (isO q.2 l2 24) (ck (inR (0 : Int32) (zL q.2 l2)) (some (0, pX q.2 l2 (0 : Int32).toNatClampNeg (q.1).toInt64)))
  | .inr q => if q.1 = 17 then some (2, pN q.2 40 6) else if q.1 = 39 then some (1, pN q.2 40 6) else none))
theorem c_L_program {G : Gd} {j : Nat} (hj : 9 ≤ j) {l0 : Nat} {l1 : Int32} {l2 : Nat} {h : Hp} {o : Int32 × Hp} (e : f_L_program l0 l1 l2 h = some o) : CalW G j Y_L_program hh_program [zrf l0, .int l1, zrf l2] h (some (.int o.1)) o.2 := by
  unfold f_L_program at e
  replace e := ckd e
  obtain ⟨k0, e⟩ := e
  replace e := bd e
  obtain ⟨q, eq, e⟩ := e
  rcases q with q | q
  · replace e := ckd e
    obtain ⟨k1, e⟩ := e
    replace e := ckd e
    obtain ⟨k2, e⟩ := e
    obtain rfl := Option.some.inj e
    refine CalW.of (by decide +kernel) (by simp [lg_sl, zrf_cat, cat_int, cat_long]) ?_
    refine g_ald_n (i := 2) d_L_program_0 rfl (c := l2) (by simp [lv_args, zlk, zrf_cat, cat_int, cat_long]) ?_
    refine r_iconst d_L_program_1 (v := (0 : Int32)) (by decide) ?_
    refine g_ald_n (i := 0) d_L_program_2 rfl (c := l0) (by simp [lv_args, zlk, zrf_cat, cat_int, cat_long]) ?_
    refine r_iload_n (i := 1) d_L_program_3 rfl (x := l1) (by simp [lv_args, zlk, zrf_cat, cat_int, cat_long]) ?_
    refine g_callV d_L_program_4 vk_L_program (as := [_]) rfl k0 rfl (by simp [zrf_cat, cat_int, cat_long]) (j := 8) (by omega) (c_X10_program (by omega) eq) ?_
    refine r_i2l d_L_program_7 ?_
    refine g_last d_L_program_8 k1 k2 ?_
    refine r_goto d_L_program_9 (tgt := 18) (by decide) ?_
    refine r_iconst d_L_program_18 (v := (0 : Int32)) (by decide) ?_
    exact Ev.here ⟨rfl, Or.inr (Or.inl ⟨d_L_program_19, _, _, rfl, rfl, rfl, rfl⟩)⟩
  · have W9 : Ev G M_L_program j 0 (lv_args 0 [zrf l0, .int l1, zrf l2]) [] h (fun F => F.1 = 4 ∧ F.2.2.1 = ([.int l1] : List Value).reverse ++ zrf l0 :: [.int 0, zrf l2] ∧ F.2.2.2 = h) := by
      refine g_ald_n (i := 2) d_L_program_0 rfl (c := l2) (by simp [lv_args, zlk, zrf_cat, cat_int, cat_long]) ?_
      refine r_iconst d_L_program_1 (v := (0 : Int32)) (by decide) ?_
      refine g_ald_n (i := 0) d_L_program_2 rfl (c := l0) (by simp [lv_args, zlk, zrf_cat, cat_int, cat_long]) ?_
      refine r_iload_n (i := 1) d_L_program_3 rfl (x := l1) (by simp [lv_args, zlk, zrf_cat, cat_int, cat_long]) ?_
      exact Ev.here ⟨rfl, rfl, rfl⟩
    have k8 : l0 ≠ 0 := by have := k0.1; omega
    have T9 := t_X10_program (G := G) (j := 8) (by omega) eq
    replace e : (if q.1 = 17 then some (2, pN q.2 40 6) else if q.1 = 39 then some (1, pN q.2 40 6) else none) = some o := e
    by_cases c17 : q.1 = 17
    · replace e := (if_pos c17).symm.trans e
      obtain rfl := Option.some.inj e
      have X9 := CalX.of (Y := Y_X10_program) (E := "java/lang/IndexOutOfBoundsException") (pc := q.1) (h1 := q.2) (by decide +kernel) (by simp [lg_sl, zrf_cat, cat_int, cat_long]) (by decide) (by rw [c17]; exact tk_program_17) T9
      exact CalW.caught (Y := Y_L_program) (Y1 := Y_X10_program) (j1 := 8) (n9 := 1) (i9 := 3) (k9 := 2) (v9 := 2) (E := "java/lang/IndexOutOfBoundsException") (name := "java/lang/IndexOutOfBoundsException") (pre := [(0, 9, 12, 13)]) (suf := []) (row := (0, 9, 15, 15)) (by decide +kernel) (by simp [lg_sl, zrf_cat, cat_int, cat_long]) (by decide +kernel) rfl W9 d_L_program_4 yk_X10_program (by decide +kernel) (by decide +kernel) (by decide +kernel) k0 rfl (by simp [zrf_cat, cat_int, cat_long]) (by omega) X9 rfl (fun z hz => by
        rw [List.mem_singleton.mp hz]
        exact ⟨by decide, "java/lang/IllegalArgumentException", by decide +kernel, by decide +kernel⟩) (by decide) (by decide) (by decide +kernel) (by decide +kernel) (Or.inr ⟨rfl, 3, rfl, d_L_program_15⟩) (by decide) d_L_program_16 (by decide) d_L_program_17 rfl
    · replace e := (if_neg c17).symm.trans e
      by_cases c39 : q.1 = 39
      · replace e := (if_pos c39).symm.trans e
        obtain rfl := Option.some.inj e
        have X9 := CalX.of (Y := Y_X10_program) (E := "java/lang/IllegalArgumentException") (pc := q.1) (h1 := q.2) (by decide +kernel) (by simp [lg_sl, zrf_cat, cat_int, cat_long]) (by decide) (by rw [c39]; exact tk_program_39) T9
        exact CalW.caught (Y := Y_L_program) (Y1 := Y_X10_program) (j1 := 8) (n9 := 1) (i9 := 3) (k9 := 1) (v9 := 1) (E := "java/lang/IllegalArgumentException") (name := "java/lang/IllegalArgumentException") (pre := []) (suf := [(0, 9, 15, 15)]) (row := (0, 9, 12, 13)) (by decide +kernel) (by simp [lg_sl, zrf_cat, cat_int, cat_long]) (by decide +kernel) rfl W9 d_L_program_4 yk_X10_program (by decide +kernel) (by decide +kernel) (by decide +kernel) k0 rfl (by simp [zrf_cat, cat_int, cat_long]) (by omega) X9 rfl (fun z hz => by cases hz) (by decide) (by decide) (by decide +kernel) (by decide +kernel) (Or.inr ⟨rfl, 3, rfl, d_L_program_12⟩) (by decide) d_L_program_13 (by decide) d_L_program_14 rfl
      · replace e := (if_neg c39).symm.trans e
        cases e
abbrev Y_L_query : Yx := (⟨"TaskWeaveLaw", "query", "(LTaskWeave;II[J)I"⟩, method_4_code, 5, (some .int))
abbrev M_L_query : Mx := ("TaskWeaveLaw", method_4_code, 5, false)
abbrev hh_query : List (Nat × Nat × Nat × Nat) := [(0, 10, 13, 21), (0, 10, 17, 23)]
theorem yw_L_query : Yw Y_L_query hh_query 4 := ⟨by decide +kernel, by decide +kernel, ⟨by decide, by decide⟩, by decide +kernel, by decide⟩
theorem d_L_query_0 : decode method_4_code 0 = .ok (.aload_n 3, 1) := by decide +kernel
theorem d_L_query_1 : decode method_4_code 1 = .ok (.iconst 0, 1) := by decide +kernel
theorem d_L_query_2 : decode method_4_code 2 = .ok (.aload_n 0, 1) := by decide +kernel
theorem d_L_query_3 : decode method_4_code 3 = .ok (.iload_n 1, 1) := by decide +kernel
theorem d_L_query_4 : decode method_4_code 4 = .ok (.iload_n 2, 1) := by decide +kernel
theorem d_L_query_5 : decode method_4_code 5 = .ok (.invokevirtual 17, 3) := by decide +kernel
theorem d_L_query_8 : decode method_4_code 8 = .ok (.i2l, 1) := by decide +kernel
theorem d_L_query_9 : decode method_4_code 9 = .ok (.lastore, 1) := by decide +kernel
theorem d_L_query_10 : decode method_4_code 10 = .ok (.goto 11, 3) := by decide +kernel
theorem d_L_query_13 : decode method_4_code 13 = .ok (.astore 4, 2) := by decide +kernel
theorem d_L_query_15 : decode method_4_code 15 = .ok (.iconst 1, 1) := by decide +kernel
theorem d_L_query_16 : decode method_4_code 16 = .ok (.ireturn, 1) := by decide +kernel
theorem d_L_query_17 : decode method_4_code 17 = .ok (.astore 4, 2) := by decide +kernel
theorem d_L_query_19 : decode method_4_code 19 = .ok (.iconst 2, 1) := by decide +kernel
theorem d_L_query_20 : decode method_4_code 20 = .ok (.ireturn, 1) := by decide +kernel
theorem d_L_query_21 : decode method_4_code 21 = .ok (.iconst 0, 1) := by decide +kernel
theorem d_L_query_22 : decode method_4_code 22 = .ok (.ireturn, 1) := by decide +kernel
theorem tk_query_20 : Tk "TaskWeave" prog_1_method_8_code 20 "java/util/NoSuchElementException" := ⟨130, 132, 134, 13, 2, .ldc 132, "no such local", "java/lang/RuntimeException", ⟨#[42, 43, 183, 0, 13, 177]⟩, ⟨by decide +kernel, by decide +kernel, by decide +kernel, by decide +kernel⟩, ⟨by decide +kernel, by decide +kernel⟩, ⟨by decide +kernel, by decide +kernel, by decide +kernel⟩, by decide +kernel, by decide +kernel, by decide +kernel, Or.inl ⟨rfl, rfl⟩, by decide +kernel, by decide +kernel, by decide +kernel⟩
theorem tk_query_44 : Tk "TaskWeave" prog_1_method_8_code 44 "java/lang/IllegalStateException" := ⟨135, 137, 139, 7, 2, .ldc 137, "its shard does not work", "java/lang/RuntimeException", Bundle.six, ⟨by decide +kernel, by decide +kernel, by decide +kernel, by decide +kernel⟩, ⟨by decide +kernel, by decide +kernel⟩, ⟨by decide +kernel, by decide +kernel, by decide +kernel⟩, by decide +kernel, by decide +kernel, by decide +kernel, Or.inl ⟨rfl, rfl⟩, by decide +kernel, by decide +kernel, by decide +kernel⟩
theorem vk_L_query : Vk "TaskWeaveLaw" 17 2 11 Y_X10_query := ⟨yk_X10_query, by decide +kernel, by decide +kernel, by decide +kernel, by decide⟩
def f_L_query (l0 : Nat) (l1 : Int32) (l2 : Int32) (l3 : Nat) (h : Hp) : Option (Int32 × Hp) := ck (isO h l0 11) ((f_X10_query l0 l1 l2 h).bind (fun q => match q with
  | .inl q => ck (isO q.2 l3 24) (ck (inR (0 : Int32) (zL q.2 l3)) (some (0, pX q.2 l3 (0 : Int32).toNatClampNeg (q.1).toInt64)))
  | .inr q => if q.1 = 20 then some (1, pN q.2 40 6) else if q.1 = 44 then some (2, pN q.2 40 6) else none))
theorem c_L_query {G : Gd} {j : Nat} (hj : 7 ≤ j) {l0 : Nat} {l1 l2 : Int32} {l3 : Nat} {h : Hp} {o : Int32 × Hp} (e : f_L_query l0 l1 l2 l3 h = some o) : CalW G j Y_L_query hh_query [zrf l0, .int l1, .int l2, zrf l3] h (some (.int o.1)) o.2 := by
  unfold f_L_query at e
  replace e := ckd e
  obtain ⟨k0, e⟩ := e
  replace e := bd e
  obtain ⟨q, eq, e⟩ := e
  rcases q with q | q
  · replace e := ckd e
    obtain ⟨k1, e⟩ := e
    replace e := ckd e
    obtain ⟨k2, e⟩ := e
    obtain rfl := Option.some.inj e
    refine CalW.of (by decide +kernel) (by simp [lg_sl, zrf_cat, cat_int, cat_long]) ?_
    refine g_ald_n (i := 3) d_L_query_0 rfl (c := l3) (by simp [lv_args, zlk, zrf_cat, cat_int, cat_long]) ?_
    refine r_iconst d_L_query_1 (v := (0 : Int32)) (by decide) ?_
    refine g_ald_n (i := 0) d_L_query_2 rfl (c := l0) (by simp [lv_args, zlk, zrf_cat, cat_int, cat_long]) ?_
    refine r_iload_n (i := 1) d_L_query_3 rfl (x := l1) (by simp [lv_args, zlk, zrf_cat, cat_int, cat_long]) ?_
    refine r_iload_n (i := 2) d_L_query_4 rfl (x := l2) (by simp [lv_args, zlk, zrf_cat, cat_int, cat_long]) ?_
    refine g_callV d_L_query_5 vk_L_query (as := [_, _]) rfl k0 rfl (by simp [zrf_cat, cat_int, cat_long]) (j := 6) (by omega) (c_X10_query (by omega) eq) ?_
    refine r_i2l d_L_query_8 ?_
    refine g_last d_L_query_9 k1 k2 ?_
    refine r_goto d_L_query_10 (tgt := 21) (by decide) ?_
    refine r_iconst d_L_query_21 (v := (0 : Int32)) (by decide) ?_
    exact Ev.here ⟨rfl, Or.inr (Or.inl ⟨d_L_query_22, _, _, rfl, rfl, rfl, rfl⟩)⟩
  · have W9 : Ev G M_L_query j 0 (lv_args 0 [zrf l0, .int l1, .int l2, zrf l3]) [] h (fun F => F.1 = 5 ∧ F.2.2.1 = ([.int l1, .int l2] : List Value).reverse ++ zrf l0 :: [.int 0, zrf l3] ∧ F.2.2.2 = h) := by
      refine g_ald_n (i := 3) d_L_query_0 rfl (c := l3) (by simp [lv_args, zlk, zrf_cat, cat_int, cat_long]) ?_
      refine r_iconst d_L_query_1 (v := (0 : Int32)) (by decide) ?_
      refine g_ald_n (i := 0) d_L_query_2 rfl (c := l0) (by simp [lv_args, zlk, zrf_cat, cat_int, cat_long]) ?_
      refine r_iload_n (i := 1) d_L_query_3 rfl (x := l1) (by simp [lv_args, zlk, zrf_cat, cat_int, cat_long]) ?_
      refine r_iload_n (i := 2) d_L_query_4 rfl (x := l2) (by simp [lv_args, zlk, zrf_cat, cat_int, cat_long]) ?_
      exact Ev.here ⟨rfl, rfl, rfl⟩
    have k8 : l0 ≠ 0 := by have := k0.1; omega
    have T9 := t_X10_query (G := G) (j := 6) (by omega) eq
    replace e : (if q.1 = 20 then some (1, pN q.2 40 6) else if q.1 = 44 then some (2, pN q.2 40 6) else none) = some o := e
    by_cases c20 : q.1 = 20
    · replace e := (if_pos c20).symm.trans e
      obtain rfl := Option.some.inj e
      have X9 := CalX.of (Y := Y_X10_query) (E := "java/util/NoSuchElementException") (pc := q.1) (h1 := q.2) (by decide +kernel) (by simp [lg_sl, zrf_cat, cat_int, cat_long]) (by decide) (by rw [c20]; exact tk_query_20) T9
      exact CalW.caught (Y := Y_L_query) (Y1 := Y_X10_query) (j1 := 6) (n9 := 2) (i9 := 4) (k9 := 1) (v9 := 1) (E := "java/util/NoSuchElementException") (name := "java/util/NoSuchElementException") (pre := []) (suf := [(0, 10, 17, 23)]) (row := (0, 10, 13, 21)) (by decide +kernel) (by simp [lg_sl, zrf_cat, cat_int, cat_long]) (by decide +kernel) rfl W9 d_L_query_5 yk_X10_query (by decide +kernel) (by decide +kernel) (by decide +kernel) k0 rfl (by simp [zrf_cat, cat_int, cat_long]) (by omega) X9 rfl (fun z hz => by cases hz) (by decide) (by decide) (by decide +kernel) (by decide +kernel) (Or.inl ⟨rfl, d_L_query_13⟩) (by decide) d_L_query_15 (by decide) d_L_query_16 rfl
    · replace e := (if_neg c20).symm.trans e
      by_cases c44 : q.1 = 44
      · replace e := (if_pos c44).symm.trans e
        obtain rfl := Option.some.inj e
        have X9 := CalX.of (Y := Y_X10_query) (E := "java/lang/IllegalStateException") (pc := q.1) (h1 := q.2) (by decide +kernel) (by simp [lg_sl, zrf_cat, cat_int, cat_long]) (by decide) (by rw [c44]; exact tk_query_44) T9
        exact CalW.caught (Y := Y_L_query) (Y1 := Y_X10_query) (j1 := 6) (n9 := 2) (i9 := 4) (k9 := 2) (v9 := 2) (E := "java/lang/IllegalStateException") (name := "java/lang/IllegalStateException") (pre := [(0, 10, 13, 21)]) (suf := []) (row := (0, 10, 17, 23)) (by decide +kernel) (by simp [lg_sl, zrf_cat, cat_int, cat_long]) (by decide +kernel) rfl W9 d_L_query_5 yk_X10_query (by decide +kernel) (by decide +kernel) (by decide +kernel) k0 rfl (by simp [zrf_cat, cat_int, cat_long]) (by omega) X9 rfl (fun z hz => by
          rw [List.mem_singleton.mp hz]
          exact ⟨by decide, "java/util/NoSuchElementException", by decide +kernel, by decide +kernel⟩) (by decide) (by decide) (by decide +kernel) (by decide +kernel) (Or.inl ⟨rfl, d_L_query_17⟩) (by decide) d_L_query_19 (by decide) d_L_query_20 rfl
      · replace e := (if_neg c44).symm.trans e
        cases e
abbrev Y_L_tick : Yx := (⟨"TaskWeaveLaw", "tick", "(LTaskWeave;I[J)I"⟩, method_5_code, 4, (some .int))
abbrev M_L_tick : Mx := ("TaskWeaveLaw", method_5_code, 4, false)
abbrev hh_tick : List (Nat × Nat × Nat × Nat) := [(0, 9, 12, 13)]
theorem yw_L_tick : Yw Y_L_tick hh_tick 3 := ⟨by decide +kernel, by decide +kernel, ⟨by decide, by decide⟩, by decide +kernel, by decide⟩
theorem d_L_tick_0 : decode method_5_code 0 = .ok (.aload_n 2, 1) := by decide +kernel
theorem d_L_tick_1 : decode method_5_code 1 = .ok (.iconst 0, 1) := by decide +kernel
theorem d_L_tick_2 : decode method_5_code 2 = .ok (.aload_n 0, 1) := by decide +kernel
theorem d_L_tick_3 : decode method_5_code 3 = .ok (.iload_n 1, 1) := by decide +kernel
theorem d_L_tick_4 : decode method_5_code 4 = .ok (.invokevirtual 25, 3) := by decide +kernel
theorem d_L_tick_7 : decode method_5_code 7 = .ok (.i2l, 1) := by decide +kernel
theorem d_L_tick_8 : decode method_5_code 8 = .ok (.lastore, 1) := by decide +kernel
theorem d_L_tick_9 : decode method_5_code 9 = .ok (.goto 6, 3) := by decide +kernel
theorem d_L_tick_12 : decode method_5_code 12 = .ok (.astore_n 3, 1) := by decide +kernel
theorem d_L_tick_13 : decode method_5_code 13 = .ok (.iconst 1, 1) := by decide +kernel
theorem d_L_tick_14 : decode method_5_code 14 = .ok (.ireturn, 1) := by decide +kernel
theorem d_L_tick_15 : decode method_5_code 15 = .ok (.iconst 0, 1) := by decide +kernel
theorem d_L_tick_16 : decode method_5_code 16 = .ok (.ireturn, 1) := by decide +kernel
theorem tk_tick_12 : Tk "TaskWeave" prog_1_method_14_code 12 "java/lang/IllegalArgumentException" := ⟨57, 182, 61, 7, 2, .ldc 182, "not 1 to 500 ticks", "java/lang/RuntimeException", Bundle.six, ⟨by decide +kernel, by decide +kernel, by decide +kernel, by decide +kernel⟩, ⟨by decide +kernel, by decide +kernel⟩, ⟨by decide +kernel, by decide +kernel, by decide +kernel⟩, by decide +kernel, by decide +kernel, by decide +kernel, Or.inl ⟨rfl, rfl⟩, by decide +kernel, by decide +kernel, by decide +kernel⟩
theorem vk_L_tick : Vk "TaskWeaveLaw" 25 1 11 Y_X10_tick := ⟨yk_X10_tick, by decide +kernel, by decide +kernel, by decide +kernel, by decide⟩
def f_L_tick (l0 : Nat) (l1 : Int32) (l2 : Nat) (h : Hp) : Option (Int32 × Hp) := ck (isO h l0 11) ((f_X10_tick l0 l1 h).bind (fun q => match q with
  | .inl q => ck (isO q.2 l2 24) (ck (inR (0 : Int32) (zL q.2 l2)) (some (0, pX q.2 l2 (0 : Int32).toNatClampNeg (q.1).toInt64)))
  | .inr q => if q.1 = 12 then some (1, pN q.2 40 6) else none))
theorem c_L_tick {G : Gd} {j : Nat} (hj : 10 ≤ j) {l0 : Nat} {l1 : Int32} {l2 : Nat} {h : Hp} {o : Int32 × Hp} (e : f_L_tick l0 l1 l2 h = some o) : CalW G j Y_L_tick hh_tick [zrf l0, .int l1, zrf l2] h (some (.int o.1)) o.2 := by
  unfold f_L_tick at e
  replace e := ckd e
  obtain ⟨k0, e⟩ := e
  replace e := bd e
  obtain ⟨q, eq, e⟩ := e
  rcases q with q | q
  · replace e := ckd e
    obtain ⟨k1, e⟩ := e
    replace e := ckd e
    obtain ⟨k2, e⟩ := e
    obtain rfl := Option.some.inj e
    refine CalW.of (by decide +kernel) (by simp [lg_sl, zrf_cat, cat_int, cat_long]) ?_
    refine g_ald_n (i := 2) d_L_tick_0 rfl (c := l2) (by simp [lv_args, zlk, zrf_cat, cat_int, cat_long]) ?_
    refine r_iconst d_L_tick_1 (v := (0 : Int32)) (by decide) ?_
    refine g_ald_n (i := 0) d_L_tick_2 rfl (c := l0) (by simp [lv_args, zlk, zrf_cat, cat_int, cat_long]) ?_
    refine r_iload_n (i := 1) d_L_tick_3 rfl (x := l1) (by simp [lv_args, zlk, zrf_cat, cat_int, cat_long]) ?_
    refine g_callV d_L_tick_4 vk_L_tick (as := [_]) rfl k0 rfl (by simp [zrf_cat, cat_int, cat_long]) (j := 9) (by omega) (c_X10_tick (by omega) eq) ?_
    refine r_i2l d_L_tick_7 ?_
    refine g_last d_L_tick_8 k1 k2 ?_
    refine r_goto d_L_tick_9 (tgt := 15) (by decide) ?_
    refine r_iconst d_L_tick_15 (v := (0 : Int32)) (by decide) ?_
    exact Ev.here ⟨rfl, Or.inr (Or.inl ⟨d_L_tick_16, _, _, rfl, rfl, rfl, rfl⟩)⟩
  · have W9 : Ev G M_L_tick j 0 (lv_args 0 [zrf l0, .int l1, zrf l2]) [] h (fun F => F.1 = 4 ∧ F.2.2.1 = ([.int l1] : List Value).reverse ++ zrf l0 :: [.int 0, zrf l2] ∧ F.2.2.2 = h) := by
      refine g_ald_n (i := 2) d_L_tick_0 rfl (c := l2) (by simp [lv_args, zlk, zrf_cat, cat_int, cat_long]) ?_
      refine r_iconst d_L_tick_1 (v := (0 : Int32)) (by decide) ?_
      refine g_ald_n (i := 0) d_L_tick_2 rfl (c := l0) (by simp [lv_args, zlk, zrf_cat, cat_int, cat_long]) ?_
      refine r_iload_n (i := 1) d_L_tick_3 rfl (x := l1) (by simp [lv_args, zlk, zrf_cat, cat_int, cat_long]) ?_
      exact Ev.here ⟨rfl, rfl, rfl⟩
    have k8 : l0 ≠ 0 := by have := k0.1; omega
    have T9 := t_X10_tick (G := G) (j := 9) (by omega) eq
    replace e : (if q.1 = 12 then some (1, pN q.2 40 6) else none) = some o := e
    by_cases c12 : q.1 = 12
    · replace e := (if_pos c12).symm.trans e
      obtain rfl := Option.some.inj e
      have X9 := CalX.of (Y := Y_X10_tick) (E := "java/lang/IllegalArgumentException") (pc := q.1) (h1 := q.2) (by decide +kernel) (by simp [lg_sl, zrf_cat, cat_int, cat_long]) (by decide) (by rw [c12]; exact tk_tick_12) T9
      exact CalW.caught (Y := Y_L_tick) (Y1 := Y_X10_tick) (j1 := 9) (n9 := 1) (i9 := 3) (k9 := 1) (v9 := 1) (E := "java/lang/IllegalArgumentException") (name := "java/lang/IllegalArgumentException") (pre := []) (suf := []) (row := (0, 9, 12, 13)) (by decide +kernel) (by simp [lg_sl, zrf_cat, cat_int, cat_long]) (by decide +kernel) rfl W9 d_L_tick_4 yk_X10_tick (by decide +kernel) (by decide +kernel) (by decide +kernel) k0 rfl (by simp [zrf_cat, cat_int, cat_long]) (by omega) X9 rfl (fun z hz => by cases hz) (by decide) (by decide) (by decide +kernel) (by decide +kernel) (Or.inr ⟨rfl, 3, rfl, d_L_tick_12⟩) (by decide) d_L_tick_13 (by decide) d_L_tick_14 rfl
    · replace e := (if_neg c12).symm.trans e
      cases e
abbrev Y_L_event : Yx := (⟨"TaskWeaveLaw", "event", "(LTaskWeave;III[J)I"⟩, method_6_code, 6, (some .int))
abbrev M_L_event : Mx := ("TaskWeaveLaw", method_6_code, 6, false)
abbrev hh_event : List (Nat × Nat × Nat × Nat) := [(0, 12, 15, 21), (0, 12, 19, 15)]
theorem yw_L_event : Yw Y_L_event hh_event 5 := ⟨by decide +kernel, by decide +kernel, ⟨by decide, by decide⟩, by decide +kernel, by decide⟩
theorem d_L_event_0 : decode method_6_code 0 = .ok (.aload 4, 2) := by decide +kernel
theorem d_L_event_2 : decode method_6_code 2 = .ok (.iconst 0, 1) := by decide +kernel
theorem d_L_event_3 : decode method_6_code 3 = .ok (.aload_n 0, 1) := by decide +kernel
theorem d_L_event_4 : decode method_6_code 4 = .ok (.iload_n 1, 1) := by decide +kernel
theorem d_L_event_5 : decode method_6_code 5 = .ok (.iload_n 2, 1) := by decide +kernel
theorem d_L_event_6 : decode method_6_code 6 = .ok (.iload_n 3, 1) := by decide +kernel
theorem d_L_event_7 : decode method_6_code 7 = .ok (.invokevirtual 28, 3) := by decide +kernel
theorem d_L_event_10 : decode method_6_code 10 = .ok (.i2l, 1) := by decide +kernel
theorem d_L_event_11 : decode method_6_code 11 = .ok (.lastore, 1) := by decide +kernel
theorem d_L_event_12 : decode method_6_code 12 = .ok (.goto 11, 3) := by decide +kernel
theorem d_L_event_15 : decode method_6_code 15 = .ok (.astore 5, 2) := by decide +kernel
theorem d_L_event_17 : decode method_6_code 17 = .ok (.iconst 1, 1) := by decide +kernel
theorem d_L_event_18 : decode method_6_code 18 = .ok (.ireturn, 1) := by decide +kernel
theorem d_L_event_19 : decode method_6_code 19 = .ok (.astore 5, 2) := by decide +kernel
theorem d_L_event_21 : decode method_6_code 21 = .ok (.iconst 2, 1) := by decide +kernel
theorem d_L_event_22 : decode method_6_code 22 = .ok (.ireturn, 1) := by decide +kernel
theorem d_L_event_23 : decode method_6_code 23 = .ok (.iconst 0, 1) := by decide +kernel
theorem d_L_event_24 : decode method_6_code 24 = .ok (.ireturn, 1) := by decide +kernel
theorem tk_event_28 : Tk "TaskWeave" prog_1_method_19_code 28 "java/util/NoSuchElementException" := ⟨130, 245, 134, 13, 2, .ldc 245, "no such event", "java/lang/RuntimeException", ⟨#[42, 43, 183, 0, 13, 177]⟩, ⟨by decide +kernel, by decide +kernel, by decide +kernel, by decide +kernel⟩, ⟨by decide +kernel, by decide +kernel⟩, ⟨by decide +kernel, by decide +kernel, by decide +kernel⟩, by decide +kernel, by decide +kernel, by decide +kernel, Or.inl ⟨rfl, rfl⟩, by decide +kernel, by decide +kernel, by decide +kernel⟩
theorem tk_event_112 : Tk "TaskWeave" prog_1_method_19_code 112 "java/lang/IndexOutOfBoundsException" := ⟨46, 256, 50, 7, 3, .ldc_w 256, "an event tells 0 to 3", "java/lang/RuntimeException", Bundle.six, ⟨by decide +kernel, by decide +kernel, by decide +kernel, by decide +kernel⟩, ⟨by decide +kernel, by decide +kernel⟩, ⟨by decide +kernel, by decide +kernel, by decide +kernel⟩, by decide +kernel, by decide +kernel, by decide +kernel, Or.inr ⟨rfl, rfl⟩, by decide +kernel, by decide +kernel, by decide +kernel⟩
theorem vk_L_event : Vk "TaskWeaveLaw" 28 3 11 Y_X10_event := ⟨yk_X10_event, by decide +kernel, by decide +kernel, by decide +kernel, by decide⟩
def f_L_event (l0 : Nat) (l1 : Int32) (l2 : Int32) (l3 : Int32) (l4 : Nat) (h : Hp) : Option (Int32 × Hp) := ck (isO h l0 11) ((f_X10_event l0 l1 l2 l3 h).bind (fun q => match q with
  | .inl q => ck (isO q.2 l4 24) (ck (inR (0 : Int32) (zL q.2 l4)) (some (0, pX q.2 l4 (0 : Int32).toNatClampNeg (q.1).toInt64)))
  | .inr q => if q.1 = 28 then some (1, pN q.2 40 6) else if q.1 = 112 then some (2, pN q.2 40 6) else none))
theorem c_L_event {G : Gd} {j : Nat} (hj : 7 ≤ j) {l0 : Nat} {l1 l2 l3 : Int32} {l4 : Nat} {h : Hp} {o : Int32 × Hp} (e : f_L_event l0 l1 l2 l3 l4 h = some o) : CalW G j Y_L_event hh_event [zrf l0, .int l1, .int l2, .int l3, zrf l4] h (some (.int o.1)) o.2 := by
  unfold f_L_event at e
  replace e := ckd e
  obtain ⟨k0, e⟩ := e
  replace e := bd e
  obtain ⟨q, eq, e⟩ := e
  rcases q with q | q
  · replace e := ckd e
    obtain ⟨k1, e⟩ := e
    replace e := ckd e
    obtain ⟨k2, e⟩ := e
    obtain rfl := Option.some.inj e
    refine CalW.of (by decide +kernel) (by simp [lg_sl, zrf_cat, cat_int, cat_long]) ?_
    refine g_ald d_L_event_0 (c := l4) (by simp [lv_args, zlk, zrf_cat, cat_int, cat_long]) ?_
    refine r_iconst d_L_event_2 (v := (0 : Int32)) (by decide) ?_
    refine g_ald_n (i := 0) d_L_event_3 rfl (c := l0) (by simp [lv_args, zlk, zrf_cat, cat_int, cat_long]) ?_
    refine r_iload_n (i := 1) d_L_event_4 rfl (x := l1) (by simp [lv_args, zlk, zrf_cat, cat_int, cat_long]) ?_
    refine r_iload_n (i := 2) d_L_event_5 rfl (x := l2) (by simp [lv_args, zlk, zrf_cat, cat_int, cat_long]) ?_
    refine r_iload_n (i := 3) d_L_event_6 rfl (x := l3) (by simp [lv_args, zlk, zrf_cat, cat_int, cat_long]) ?_
    refine g_callV d_L_event_7 vk_L_event (as := [_, _, _]) rfl k0 rfl (by simp [zrf_cat, cat_int, cat_long]) (j := 6) (by omega) (c_X10_event (by omega) eq) ?_
    refine r_i2l d_L_event_10 ?_
    refine g_last d_L_event_11 k1 k2 ?_
    refine r_goto d_L_event_12 (tgt := 23) (by decide) ?_
    refine r_iconst d_L_event_23 (v := (0 : Int32)) (by decide) ?_
    exact Ev.here ⟨rfl, Or.inr (Or.inl ⟨d_L_event_24, _, _, rfl, rfl, rfl, rfl⟩)⟩
  · have W9 : Ev G M_L_event j 0 (lv_args 0 [zrf l0, .int l1, .int l2, .int l3, zrf l4]) [] h (fun F => F.1 = 7 ∧ F.2.2.1 = ([.int l1, .int l2, .int l3] : List Value).reverse ++ zrf l0 :: [.int 0, zrf l4] ∧ F.2.2.2 = h) := by
      refine g_ald d_L_event_0 (c := l4) (by simp [lv_args, zlk, zrf_cat, cat_int, cat_long]) ?_
      refine r_iconst d_L_event_2 (v := (0 : Int32)) (by decide) ?_
      refine g_ald_n (i := 0) d_L_event_3 rfl (c := l0) (by simp [lv_args, zlk, zrf_cat, cat_int, cat_long]) ?_
      refine r_iload_n (i := 1) d_L_event_4 rfl (x := l1) (by simp [lv_args, zlk, zrf_cat, cat_int, cat_long]) ?_
      refine r_iload_n (i := 2) d_L_event_5 rfl (x := l2) (by simp [lv_args, zlk, zrf_cat, cat_int, cat_long]) ?_
      refine r_iload_n (i := 3) d_L_event_6 rfl (x := l3) (by simp [lv_args, zlk, zrf_cat, cat_int, cat_long]) ?_
      exact Ev.here ⟨rfl, rfl, rfl⟩
    have k8 : l0 ≠ 0 := by have := k0.1; omega
    have T9 := t_X10_event (G := G) (j := 6) (by omega) eq
    replace e : (if q.1 = 28 then some (1, pN q.2 40 6) else if q.1 = 112 then some (2, pN q.2 40 6) else none) = some o := e
    by_cases c28 : q.1 = 28
    · replace e := (if_pos c28).symm.trans e
      obtain rfl := Option.some.inj e
      have X9 := CalX.of (Y := Y_X10_event) (E := "java/util/NoSuchElementException") (pc := q.1) (h1 := q.2) (by decide +kernel) (by simp [lg_sl, zrf_cat, cat_int, cat_long]) (by decide) (by rw [c28]; exact tk_event_28) T9
      exact CalW.caught (Y := Y_L_event) (Y1 := Y_X10_event) (j1 := 6) (n9 := 2) (i9 := 5) (k9 := 1) (v9 := 1) (E := "java/util/NoSuchElementException") (name := "java/util/NoSuchElementException") (pre := []) (suf := [(0, 12, 19, 15)]) (row := (0, 12, 15, 21)) (by decide +kernel) (by simp [lg_sl, zrf_cat, cat_int, cat_long]) (by decide +kernel) rfl W9 d_L_event_7 yk_X10_event (by decide +kernel) (by decide +kernel) (by decide +kernel) k0 rfl (by simp [zrf_cat, cat_int, cat_long]) (by omega) X9 rfl (fun z hz => by cases hz) (by decide) (by decide) (by decide +kernel) (by decide +kernel) (Or.inl ⟨rfl, d_L_event_15⟩) (by decide) d_L_event_17 (by decide) d_L_event_18 rfl
    · replace e := (if_neg c28).symm.trans e
      by_cases c112 : q.1 = 112
      · replace e := (if_pos c112).symm.trans e
        obtain rfl := Option.some.inj e
        have X9 := CalX.of (Y := Y_X10_event) (E := "java/lang/IndexOutOfBoundsException") (pc := q.1) (h1 := q.2) (by decide +kernel) (by simp [lg_sl, zrf_cat, cat_int, cat_long]) (by decide) (by rw [c112]; exact tk_event_112) T9
        exact CalW.caught (Y := Y_L_event) (Y1 := Y_X10_event) (j1 := 6) (n9 := 2) (i9 := 5) (k9 := 2) (v9 := 2) (E := "java/lang/IndexOutOfBoundsException") (name := "java/lang/IndexOutOfBoundsException") (pre := [(0, 12, 15, 21)]) (suf := []) (row := (0, 12, 19, 15)) (by decide +kernel) (by simp [lg_sl, zrf_cat, cat_int, cat_long]) (by decide +kernel) rfl W9 d_L_event_7 yk_X10_event (by decide +kernel) (by decide +kernel) (by decide +kernel) k0 rfl (by simp [zrf_cat, cat_int, cat_long]) (by omega) X9 rfl (fun z hz => by
          rw [List.mem_singleton.mp hz]
          exact ⟨by decide, "java/util/NoSuchElementException", by decide +kernel, by decide +kernel⟩) (by decide) (by decide) (by decide +kernel) (by decide +kernel) (Or.inl ⟨rfl, d_L_event_19⟩) (by decide) d_L_event_21 (by decide) d_L_event_22 rfl
      · replace e := (if_neg c112).symm.trans e
        cases e
