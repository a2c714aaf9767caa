/-! ALL STEPS ARE IN ORDER, AND WHERE THEIR LABELS LEAD -/
def lbO (n : Nat) (L : Nat → Int32) : Prop := ∀ d, L d = -1 ∨ ∃ g, g ≤ n ∧ L d = nI g
theorem lbO.up {n m : Nat} {L : Nat → Int32} (h : lbO n L) (hm : n ≤ m) : lbO m L := fun d => (h d).imp id (fun ⟨g, g1, g2⟩ => ⟨g, by omega, g2⟩)
theorem pLb_ok {T : List Int32} {L : Nat → Int32} {n : Nat} (h : lbO n L) (a : Nat) : lbO n (pLb T L n a).2.2 := by
  unfold pLb
  split
  · exact h
  · split
    · intro d
      show upf L (pk T a - 48).toNatClampNeg (nI n) d = -1 ∨ _
      unfold upf
      by_cases c : d = (pk T a - 48).toNatClampNeg
      · right
        exact ⟨n, Nat.le_refl _, by show (if d = _ then nI n else L d) = nI n; rw [if_pos c]⟩
      · rcases h d with z | ⟨g, g1, g2⟩
        · left
          rw [if_neg c]
          exact z
        · right
          exact ⟨g, g1, by show (if d = _ then nI n else L d) = nI g; rw [if_neg c]; exact g2⟩
    · exact h
theorem pLp_ok {T : List Int32} (hT : txt T) : ∀ (k : Nat) (Q : List (StpQ × Nat)) (L : Nat → Int32) (a : Nat), Q.length + k ≤ 61 → (∀ s ∈ Q, stpO s.1) → lbO Q.length L → (pLp T k Q L a).1 = true → (∀ s ∈ (pLp T k Q L a).2.2.1, stpO s.1) ∧ lbO (pLp T k Q L a).2.2.1.length (pLp T k Q L a).2.2.2 ∧ (pLp T k Q L a).2.2.1.length ≤ 60
  | 0, Q, L, a, hk, hs, hl, h => by cases h
  | k + 1, Q, L, a, hk, hs, hl, h => by
    unfold pLp at h ⊢
    by_cases c1 : T.length ≤ a
    · rw [if_pos c1]
      exact ⟨hs, hl, by show Q.length ≤ 60; omega⟩
    · rw [if_neg c1] at h ⊢
      by_cases c2 : Q.length = 60
      · rw [if_pos c2] at h; cases h
      · rw [if_neg c2] at h ⊢
        by_cases c3 : (pLb T L Q.length a).1 = false
        · rw [if_pos c3] at h; cases h
        · rw [if_neg c3] at h ⊢
          by_cases c4 : (pSt T (pLb T L Q.length a).2.1).1 = false
          · rw [if_pos c4] at h; cases h
          · rw [if_neg c4] at h ⊢
            by_cases c5 : (pTk T 59 (pSt T (pLb T L Q.length a).2.1).2.1).1 = false
            · rw [if_pos c5] at h; cases h
            · rw [if_neg c5] at h ⊢
              have c4 : (pSt T (pLb T L Q.length a).2.1).1 = true := by
                cases z : (pSt T (pLb T L Q.length a).2.1).1 with
                | true => rfl
                | false => exact absurd z c4
              refine pLp_ok hT k _ _ _ (by rw [List.length_append, List.length_singleton]; omega) (fun s hm => ?_) ?_ h
              · rcases List.mem_append.mp hm with z | z
                · exact hs s z
                · rw [List.mem_singleton.mp z]
                  exact pSt_ok hT c4
              · rw [List.length_append, List.length_singleton]
                exact (pLb_ok hl a).up (by omega)
theorem lbO_0 : lbO 0 (fun _ => -1) := fun _ => Or.inl rfl
/-- the program that comes is in order -/
theorem prs_ok {T : List Int32} (hT : txt T) (h : (prs T).1 = -1) : prgOK (prs T).2 ∧ prgDg (prs T).2 := by
  unfold prs at h ⊢
  by_cases c : (pLp T 61 [] (fun _ => -1) 0).1 = false
  · rw [if_pos c]
    exact ⟨⟨Nat.zero_le _, fun j hj => absurd hj (Nat.not_lt_zero _)⟩, fun j hj => absurd hj (Nat.not_lt_zero _)⟩
  · rw [if_neg c] at h ⊢
    have c : (pLp T 61 [] (fun _ => -1) 0).1 = true := by
      cases z : (pLp T 61 [] (fun _ => -1) 0).1 with
      | true => rfl
      | false => exact absurd z c
    obtain ⟨o1, o2, o3⟩ := pLp_ok hT 61 [] (fun _ => -1) 0 (by simp) (fun s hs => by cases hs) lbO_0 c
    cases hk : pLk (pLp T 61 [] (fun _ => -1) 0).2.2.2 (pLp T 61 [] (fun _ => -1) 0).2.2.1 with
    | some d => exact ⟨⟨Nat.zero_le _, fun j hj => absurd hj (Nat.not_lt_zero _)⟩, fun j hj => absurd hj (Nat.not_lt_zero _)⟩
    | none =>
      show prgOK ((pLp T 61 [] (fun _ => -1) 0).2.2.1.map _) ∧ prgDg ((pLp T 61 [] (fun _ => -1) 0).2.2.1.map _)
      generalize (pLp T 61 [] (fun _ => -1) 0).2.2.1 = Q at *
      generalize (pLp T 61 [] (fun _ => -1) 0).2.2.2 = L at *
      have nf : ∀ s ∈ Q, jmp s.1 = true → L s.1.2.2.1.toNatClampNeg ≠ -1 := fun s hs hj z => by
        unfold pLk at hk
        rw [Option.map_eq_none_iff, List.find?_eq_none] at hk
        have := hk s hs
        rw [hj, decide_eq_true z] at this
        exact this rfl
      have at9 : ∀ j, j < (Q.map (fun q => lnk L q.1)).length → ∃ s ∈ Q, stpAt (Q.map (fun q => lnk L q.1)) j = lnk L s.1 := fun j hj => by
        rw [List.length_map] at hj
        refine ⟨Q[j]'hj, List.getElem_mem hj, ?_⟩
        unfold stpAt
        rw [List.getD_eq_getElem?_getD, List.getElem?_map, List.getElem?_eq_getElem hj]
        rfl
      refine ⟨⟨by rw [List.length_map]; exact o3, fun j hj => ?_⟩, fun j hj => ?_⟩
      · obtain ⟨s, hs, e⟩ := at9 j hj
        rw [e]
        obtain ⟨p1, p2, p3, p4⟩ := o1 s hs
        cases hj9 : jmp s.1 with
        | false =>
          have en : lnk L s.1 = s.1 := by unfold lnk; rw [hj9, if_neg (fun z => by cases z)]
          rw [en]
          refine ⟨p1, p2, ?_⟩
          rcases p3 with ⟨y1, y2, -⟩ | ⟨y1, -⟩ | ⟨y1, -⟩
          · exact Or.inl ⟨y1, y2⟩
          · rw [hj9] at y1; cases y1
          · exact Or.inr (Or.inr y1)
        | true =>
          have en : lnk L s.1 = (s.1.1, L s.1.2.2.1.toNatClampNeg, s.1.2.2) := by unfold lnk; rw [if_pos hj9]
          rw [en]
          refine ⟨p1, p2, Or.inr (Or.inl ⟨?_, ?_⟩)⟩
          · have hj9 := hj9
            unfold jmp at hj9
            rw [Bool.or_eq_true, decide_eq_true_iff, decide_eq_true_iff] at hj9
            exact hj9.symm
          · rw [List.length_map]
            rcases o2 s.1.2.2.1.toNatClampNeg with z | ⟨g, g1, g2⟩
            · exact absurd z (nf s hs hj9)
            · exact ⟨g, g1, g2⟩
      · obtain ⟨s, hs, e⟩ := at9 j hj
        rw [e]
        obtain ⟨p1, p2, p3, p4⟩ := o1 s hs
        intro z
        have l1 : (lnk L s.1).1 = s.1.1 := by unfold lnk; split <;> rfl
        have l2 : (lnk L s.1).2.2.1 = s.1.2.2.1 := by unfold lnk; split <;> rfl
        rw [l1] at z
        rw [l2]
        exact p4 z
/-! EVERY STEP TAKES THREE CHARACTERS -/
theorem pTk_t {T : List Int32} {c : Int32} (hc : c ≠ 0) {a : Nat} (h : (pTk T c a).1 = true) : (pTk T c a).2 = a + 1 ∧ a + 1 ≤ T.length := by
  unfold pTk at h ⊢
  split at h
  · next z =>
    rw [if_pos z]
    exact ⟨rfl, pk_lq hc z⟩
  · cases h
theorem nof {b : Bool} (h : ¬ b = false) : b = true := by
  cases b
  · exact absurd rfl h
  · rfl
theorem pVl_t {T : List Int32} {a : Nat} (ha : a ≤ T.length) (h : (pVl T a).1 = true) : a + 1 ≤ (pVl T a).2.1 ∧ (pVl T a).2.1 ≤ T.length := by
  refine ⟨?_, (pVl_le ha).2⟩
  unfold pVl at h ⊢
  split at h
  · next c =>
    rw [if_pos c]
    have h : (pTk T 45 a).2 < (pDg T 5 0 (pTk T 45 a).2).2 := of_decide_eq_true h
    have := (pTk_le (T := T) (c := 45) (by decide) ha).1
    show a + 1 ≤ (pDg T 5 0 (pTk T 45 a).2).2
    omega
  · next c =>
    rw [if_neg c]
    exact Nat.le_refl _
theorem pBr_t {T : List Int32} {a : Nat} (h : (pBr T a).1 = true) : a + 3 ≤ (pBr T a).2.1 ∧ (pBr T a).2.1 ≤ T.length := by
  unfold pBr at h ⊢
  by_cases c1 : (pTk T 40 a).1 = false
  · rw [if_pos c1] at h; cases h
  · rw [if_neg c1] at h ⊢
    by_cases c2 : (pVl T (pTk T 40 a).2).1 = false
    · rw [if_pos c2] at h; cases h
    · rw [if_neg c2] at h ⊢
      obtain ⟨e1, e2⟩ := pTk_t (T := T) (c := 40) (by decide) (nof c1)
      obtain ⟨v1, v2⟩ := pVl_t (by rw [e1]; exact e2) (nof c2)
      obtain ⟨w1, w2⟩ := pTk_t (T := T) (c := 41) (by decide) h
      refine ⟨?_, ?_⟩
      · show a + 3 ≤ (pTk T 41 (pVl T (pTk T 40 a).2).2.1).2
        omega
      · show (pTk T 41 (pVl T (pTk T 40 a).2).2.1).2 ≤ T.length
        omega
theorem pNm_t {T : List Int32} {last : Int32} {a : Nat} (h : (pNm T last a).1 = true) : (pNm T last a).2.1 = a + 1 ∧ a + 1 ≤ T.length := by
  unfold pNm at h ⊢
  split at h
  · cases h
  · next c =>
    rw [if_neg c]
    exact ⟨rfl, pk_ge (c := 48) (by decide) (fun z => c (Or.inl z))⟩
theorem pRk_t {T : List Int32} {a : Nat} {v : Int32} (ha : a ≤ T.length) (h : (pRk T a v).1 = true) : a + 1 ≤ (pRk T a v).2.1 ∧ (pRk T a v).2.1 ≤ T.length := by
  unfold pRk at h ⊢
  by_cases c1 : (pVl T a).1 = false
  · rw [if_pos c1] at h; cases h
  · rw [if_neg c1] at h ⊢
    obtain ⟨v1, v2⟩ := pVl_t ha (nof c1)
    by_cases c : pk T (pVl T a).2.1 = 43 ∨ pk T (pVl T a).2.1 = 45 ∨ pk T (pVl T a).2.1 = 42 ∨ pk T (pVl T a).2.1 = 60 ∨ pk T (pVl T a).2.1 = 61
    · rw [if_pos c] at h ⊢
      have al : (pVl T a).2.1 < T.length := by
        rcases c with c | c | c | c | c
        · exact pk_lq (by decide) c
        · exact pk_lq (by decide) c
        · exact pk_lq (by decide) c
        · exact pk_lq (by decide) c
        · exact pk_lq (by decide) c
      obtain ⟨w1, w2⟩ := pVl_t (a := (pVl T a).2.1 + 1) al h
      exact ⟨by show a + 1 ≤ (pVl T ((pVl T a).2.1 + 1)).2.1; omega, w2⟩
    · rw [if_neg c]
      exact ⟨v1, v2⟩
theorem pAC_t {T : List Int32} {a : Nat} {v c last : Int32} (h : (pAC T a v c last).1 = true) : a + 1 ≤ (pAC T a v c last).2.1 ∧ (pAC T a v c last).2.1 ≤ T.length := by
  unfold pAC at h ⊢
  by_cases c1 : (pNm T last (a + 1)).1 = false
  · rw [if_pos c1] at h; cases h
  · rw [if_neg c1] at h ⊢
    obtain ⟨e1, e2⟩ := pNm_t (nof c1)
    obtain ⟨w1, w2⟩ := pBr_t h
    exact ⟨by show a + 1 ≤ (pBr T (pNm T last (a + 1)).2.1).2.1; omega, w2⟩
theorem pRs_t {T : List Int32} {a : Nat} {v : Int32} (ha : a ≤ T.length) (h : (pRs T a v).1 = true) : a + 1 ≤ (pRs T a v).2.1 ∧ (pRs T a v).2.1 ≤ T.length := by
  unfold pRs at h ⊢
  by_cases c1 : pk T a = 65
  · rw [if_pos c1] at h ⊢; exact pAC_t h
  · rw [if_neg c1] at h ⊢
    by_cases c2 : pk T a = 67
    · rw [if_pos c2] at h ⊢; exact pAC_t h
    · rw [if_neg c2] at h ⊢
      by_cases c3 : pk T a = 74
      · rw [if_pos c3] at h ⊢
        obtain ⟨w1, w2⟩ := pBr_t h
        exact ⟨by show a + 1 ≤ (pBr T (a + 1)).2.1; omega, w2⟩
      · rw [if_neg c3] at h ⊢
        by_cases c4 : pk T a = 87
        · rw [if_pos c4]
          exact ⟨Nat.le_refl _, pk_lq (by decide) c4⟩
        · rw [if_neg c4] at h ⊢
          exact pRk_t ha h
theorem pTw_t {T : List Int32} {a : Nat} (h : (pTw T a).1 = true) : a + 1 ≤ (pTw T a).2.1 ∧ (pTw T a).2.1 ≤ T.length := by
  unfold pTw at h ⊢
  by_cases c1 : (pTk T 40 a).1 = false
  · rw [if_pos c1] at h; cases h
  · rw [if_neg c1] at h ⊢
    by_cases c2 : (pVl T (pTk T 40 a).2).1 = false
    · rw [if_pos c2] at h; cases h
    · rw [if_neg c2] at h ⊢
      by_cases c3 : (pTk T 44 (pVl T (pTk T 40 a).2).2.1).1 = false
      · rw [if_pos c3] at h; cases h
      · rw [if_neg c3] at h ⊢
        by_cases c4 : (pVl T (pTk T 44 (pVl T (pTk T 40 a).2).2.1).2).1 = false
        · rw [if_pos c4] at h; cases h
        · rw [if_neg c4] at h ⊢
          obtain ⟨e1, e2⟩ := pTk_t (T := T) (c := 40) (by decide) (nof c1)
          obtain ⟨v1, v2⟩ := pVl_t (by rw [e1]; exact e2) (nof c2)
          obtain ⟨f1, f2⟩ := pTk_t (T := T) (c := 44) (by decide) (nof c3)
          obtain ⟨u1, u2⟩ := pVl_t (by rw [f1]; exact f2) (nof c4)
          obtain ⟨w1, w2⟩ := pTk_t (T := T) (c := 41) (by decide) h
          refine ⟨?_, ?_⟩
          · show a + 1 ≤ (pTk T 41 (pVl T (pTk T 44 (pVl T (pTk T 40 a).2).2.1).2).2.1).2
            omega
          · show (pTk T 41 (pVl T (pTk T 44 (pVl T (pTk T 40 a).2).2.1).2).2.1).2 ≤ T.length
            omega
theorem pSt_t {T : List Int32} {a : Nat} (h : (pSt T a).1 = true) : a + 2 ≤ (pSt T a).2.1 ∧ (pSt T a).2.1 ≤ T.length := by
  unfold pSt at h ⊢
  by_cases c : pk T a < 97 ∨ 104 < pk T a
  · rw [if_pos c] at h ⊢
    by_cases c1 : pk T a = 71
    · rw [if_pos c1] at h ⊢
      obtain ⟨e1, e2⟩ := pNm_t h
      exact ⟨by show a + 2 ≤ (pNm T 57 (a + 1)).2.1; omega, by show (pNm T 57 (a + 1)).2.1 ≤ T.length; omega⟩
    · rw [if_neg c1] at h ⊢
      by_cases c2 : pk T a = 73
      · rw [if_pos c2] at h ⊢
        by_cases d : (pBr T (a + 1)).1 = false
        · rw [if_pos d] at h; cases h
        · rw [if_neg d] at h ⊢
          obtain ⟨w1, w2⟩ := pBr_t (nof d)
          obtain ⟨e1, e2⟩ := pNm_t h
          exact ⟨by show a + 2 ≤ (pNm T 57 (pBr T (a + 1)).2.1).2.1; omega, by show (pNm T 57 (pBr T (a + 1)).2.1).2.1 ≤ T.length; omega⟩
      · rw [if_neg c2] at h ⊢
        by_cases c3 : pk T a = 83
        · rw [if_pos c3] at h ⊢
          obtain ⟨w1, w2⟩ := pTw_t h
          exact ⟨by omega, w2⟩
        · rw [if_neg c3] at h ⊢
          by_cases c5 : pk T a = 84 ∨ pk T a = 69
          · rw [if_pos c5] at h ⊢
            obtain ⟨w1, w2⟩ := pBr_t h
            exact ⟨by show a + 2 ≤ (pBr T (a + 1)).2.1; omega, w2⟩
          · rw [if_neg c5] at h; cases h
  · rw [if_neg c] at h ⊢
    by_cases d : (pTk T 61 (a + 1)).1 = false
    · rw [if_pos d] at h; cases h
    · rw [if_neg d] at h ⊢
      obtain ⟨e1, e2⟩ := pTk_t (T := T) (c := 61) (by decide) (nof d)
      obtain ⟨w1, w2⟩ := pRs_t (by rw [e1]; exact e2) h
      exact ⟨by omega, w2⟩
theorem pLb_t {T : List Int32} {L : Nat → Int32} {n a : Nat} (h : (pLb T L n a).1 = true) : a ≤ (pLb T L n a).2.1 := by
  unfold pLb at h ⊢
  split at h
  · next c => rw [if_pos c]; exact Nat.le_refl _
  · next c =>
    rw [if_neg c]
    split at h
    · next d =>
      rw [if_pos d]
      have := (pTk_t (T := T) (c := 58) (by decide) h).1
      show a ≤ (pTk T 58 (a + 1)).2
      omega
    · cases h
theorem pLp_t {T : List Int32} : ∀ (k : Nat) (Q : List (StpQ × Nat)) (L : Nat → Int32) (a : Nat), 3 * Q.length ≤ a → a ≤ T.length → (pLp T k Q L a).1 = true → 3 * (pLp T k Q L a).2.2.1.length ≤ T.length
  | 0, Q, L, a, hq, ha, h => by cases h
  | k + 1, Q, L, a, hq, ha, h => by
    unfold pLp at h ⊢
    by_cases c1 : T.length ≤ a
    · rw [if_pos c1]
      show 3 * Q.length ≤ T.length
      omega
    · rw [if_neg c1] at h ⊢
      by_cases c2 : Q.length = 60
      · rw [if_pos c2] at h; cases h
      · rw [if_neg c2] at h ⊢
        by_cases c3 : (pLb T L Q.length a).1 = false
        · rw [if_pos c3] at h; cases h
        · rw [if_neg c3] at h ⊢
          by_cases c4 : (pSt T (pLb T L Q.length a).2.1).1 = false
          · rw [if_pos c4] at h; cases h
          · rw [if_neg c4] at h ⊢
            by_cases c5 : (pTk T 59 (pSt T (pLb T L Q.length a).2.1).2.1).1 = false
            · rw [if_pos c5] at h; cases h
            · rw [if_neg c5] at h ⊢
              have l1 := pLb_t (nof c3)
              obtain ⟨s1, s2⟩ := pSt_t (nof c4)
              obtain ⟨e1, e2⟩ := pTk_t (T := T) (c := 59) (by decide) (nof c5)
              exact pLp_t k _ _ _ (by rw [List.length_append, List.length_singleton]; omega) (by omega) h
theorem prs_len (T : List Int32) : 3 * (prs T).2.length ≤ T.length := by
  unfold prs
  by_cases c : (pLp T 61 [] (fun _ => -1) 0).1 = false
  · rw [if_pos c]; exact Nat.zero_le _
  · rw [if_neg c]
    have := pLp_t (T := T) 61 [] (fun _ => -1) 0 (Nat.le_refl _) (Nat.zero_le _) (nof c)
    cases pLk (pLp T 61 [] (fun _ => -1) 0).2.2.2 (pLp T 61 [] (fun _ => -1) 0).2.2.1 with
    | some d => exact Nat.zero_le _
    | none =>
      show 3 * ((pLp T 61 [] (fun _ => -1) 0).2.2.1.map _).length ≤ T.length
      rw [List.length_map]
      exact this
/-! THE PARSER OF THE CLASS: it begins -/
theorem c_fill12 : ∀ (m i fuel : Nat) (h : Hp), isO h 12 22 → zL h 12 = 10 → i + m = 10 → m < fuel → (∀ v, v < i → zE h 12 v = -1) → ∃ h1, f_J7_fill_53178_5 fuel 12 (-1) (nI i) (nI 10) h = some h1 ∧ (∀ v, v < 10 → zE h1 12 v = -1) ∧ cf (fun a _ => a = 12) h h1 ∧ nz h h1
  | m, i, 0, h, _, _, _, hf, _ => absurd hf (Nat.not_lt_zero _)
  | 0, i, fuel + 1, h, o, l, hi, hf, hz => by
    have c : nI 10 ≤ nI i := (zi_le (by omega) (by omega)).mpr (by omega)
    refine ⟨h, ?_, fun v hv => hz v (by omega), cf.rf h, rfl⟩
    unfold f_J7_fill_53178_5
    rw [if_pos c]
  | m + 1, i, fuel + 1, h, o, l, hi, hf, hz => by
    have c : ¬ nI 10 ≤ nI i := zi_le0 (by omega) (by omega) (by omega)
    have ni : (nI i).toNatClampNeg = i := zi_nat (by omega)
    have gi : ¬ nI i < 0 := zi_neg (by omega)
    have li : ¬ 10 ≤ i := by omega
    have f1 : cf (fun a _ => a = 12) h (pE h 12 i (-1)) := cf_pE (S := fun a _ => a = 12) rfl
    obtain ⟨h1, x1, x2, x3, x4⟩ := c_fill12 m (i + 1) fuel (pE h 12 i (-1)) o l (by omega) (by omega) (fun v hv => by
      rw [zE_pE]
      split
      · rfl
      · next z => exact hz v (by
          rcases Nat.lt_or_ge v i with y | y
          · exact y
          · exact absurd ⟨rfl, by omega⟩ z))
    refine ⟨h1, ?_, x2, f1.tr x3, x4⟩
    rw [← x1]
    simp only [f_J7_fill_53178_5, o10, o00, bh, isO, inR, ck_true, bind_some9, Nat.reduceLeDiff, Nat.reduceEqDiff, and_self, and_true, true_and, false_and, and_false, not_false_eq_true, not_true_eq_false, or_self, or_false, false_or, if_true, if_false, reduceIte, zR_pE, zT_pE, zL_pE, zn_pE, zE_pE, zI_pE, zQ_pE, zJ_pE, zR_pI, zT_pI, zL_pI, zn_pI, zE_pI, zI_pI, zQ_pI, zJ_pI, zR_pR, zT_pR, zL_pR, zn_pR, zE_pR, zI_pR, zQ_pR, zJ_pR, zR_pJ, zT_pJ, zL_pJ, zn_pJ, zE_pJ, zI_pJ, zQ_pJ, zJ_pJ, c, o, l, ni, gi, li, zi_one]
theorem c_rdSs {h : Hp} {T : List Int32} (q : tpT h T) : ∃ h1, f_X3_readSteps 9 h = some (if (pLp T 61 [] (fun _ => -1) 0).1 = true then nI (pLp T 61 [] (fun _ => -1) 0).2.2.1.length else -1, h1) ∧ atC h1 T (pLp T 61 [] (fun _ => -1) 0).2.1 ∧ rcf h h1 ∧ ((pLp T 61 [] (fun _ => -1) 0).1 = true → lbC h1 (pLp T 61 [] (fun _ => -1) 0).2.2.2 ∧ (pLp T 61 [] (fun _ => -1) 0).2.2.1.length ≤ 60 ∧ ∀ (i : Nat) (s : StpQ × Nat), (pLp T 61 [] (fun _ => -1) 0).2.2.1[i]? = some s → stQ h1 (8 * i) s.1 s.2) := by
  obtain ⟨⟨o, r0, r1, r2⟩, -, -, ⟨o12, l12⟩, -⟩ := id q
  obtain ⟨h1, x1, x2, x3, x4⟩ := c_fill12 10 0 fz h o12 l12 (by omega) (fz_big (by omega)) (fun v hv => absurd hv (Nat.not_lt_zero _))
  have q1 : tpT h1 T := q.on x3 (fun j _ _ z => by omega) (fun j z => by omega)
  have f2 : cf rsS h1 (pI h1 404 9 (nI 0)) := cf_pI (Or.inl ⟨rfl, rfl⟩)
  have q2 : atC (pI h1 404 9 (nI 0)) T 0 := ⟨q1.on f2 (fun j _ _ z => by unfold rsS at z; omega) (fun j z => by unfold rsS at z; omega), by rw [zI_pI, if_pos ⟨rfl, rfl⟩], Nat.zero_le _⟩
  have n2 : nz h1 (pI h1 404 9 (nI 0)) := rfl
  have l2 : lbC (pI h1 404 9 (nI 0)) (fun _ => -1) := fun d hd => x2 d hd
  have o1 := q1.1.1
  generalize hm : pI h1 404 9 (nI 0) = m at *
  obtain ⟨h2, y1, y2, y3, y4⟩ := c_steps 61 fz [] (fun _ => -1) 0 m q2 l2 rfl (by omega) (fz_big (by omega)) (fun i s hi => by simp at hi)
  have r1 : rcf h h1 := ⟨x3.mono (fun x j _ z => Or.inr (Or.inr z)), x4⟩
  refine ⟨h2, ?_, y2, (r1.tr ⟨f2, n2⟩).tr y3, y4⟩
  rw [← y1]
  have zz : (0 : Int32) = nI 0 := rfl
  have e1 : f_J7_fill_53178 12 (-1) h = some h1 := by
    unfold f_J7_fill_53178 bh
    rw [ck_yes o12, l12]
    exact x1
  unfold f_X3_readSteps
  rw [ck_yes o, r2, e1, bind_some9, ck_yes o1]
  unfold bh
  rw [zz, hm]
  rfl
/-! THE PARSER OF THE CLASS: a program comes -/
theorem cf_pCl {S : Nat → Nat → Prop} (h : Hp) (t src : Nat) : cf S h (pCl h t src) := by
  refine ⟨Nat.le_succ _, fun a ha => ⟨va_up_nq (by omega), va_up_nq (by omega)⟩, fun a j ha _ => ⟨?_, ?_, ?_, ?_, ?_, ?_⟩⟩
  · show (if a = zn h then 0 else zI h j a) = _
    rw [if_neg (by omega)]
  · show (if a = zn h then 0 else zR h j a) = _
    rw [if_neg (by omega)]
  · show (if a = zn h then 0 else zJ h j a) = _
    rw [if_neg (by omega)]
  · show va_up (zE h) (zn h) (zE h src) a j = _
    rw [va_up_nq (by omega)]
  · show va_up (zQ h) (zn h) (fun _ => 0) a j = _
    rw [va_up_nq (by omega)]
  · show va_up (zX h) (zn h) (fun _ => 0) a j = _
    rw [va_up_nq (by omega)]
theorem c_copy22 {h : Hp} {B n m : Nat} (o : isO h B 22) (l : zL h B = n) (hm : m ≤ n) (hn2 : n ≤ 100000) : ∃ h1, f_J7_copyOf_59c91 B (nI m) h = some (zn h, h1) ∧ cf (fun _ _ => False) h h1 ∧ isO h1 (zn h) 22 ∧ zL h1 (zn h) = m ∧ (∀ p, p < m → zE h1 (zn h) p = zE h B p) ∧ zs h1 = zs h + m ∧ zn h1 = zn h + 1 := by
  have h8 : 8 ≤ zn h := by have := o.1; have := o.2.1; omega
  by_cases e : m = n
  · have d0 : nI m = nI (zL h B) := by rw [l, e]
    refine ⟨pCl h 22 B, ?_, cf_pCl h 22 B, ⟨h8, Nat.lt_succ_self _, va_up_at⟩, ?_, fun p hp => ?_, ?_, rfl⟩
    · unfold f_J7_copyOf_59c91 bh
      rw [ck_yes o, if_pos d0, ck_yes h8, ck_yes (fun i _ => fit22 _)]
      dsimp only
      rw [ck_yes (show isO (pCl h 22 B) (zn h) 22 from ⟨h8, Nat.lt_succ_self _, va_up_at⟩)]
    · show va_up (zL h) (zn h) (zL h B) (zn h) = m
      rw [va_up_at, l, e]
    · show va_up (zE h) (zn h) (zE h B) (zn h) p = _
      rw [va_up_at]
    · show zs h + zL h B = zs h + m
      rw [l, e]
  · have d0 : ¬ nI m = nI (zL h B) := fun z => by
      rw [l] at z
      exact e ((zi_eq (by omega) (by omega)).mp z)
    have n1 : (nI m).toNatClampNeg = m := zi_nat (by omega)
    have g1 : ¬ nI m < 0 := zi_neg (by omega)
    have oN : isO (pN h 22 m) (zn h) 22 := ⟨h8, Nat.lt_succ_self _, va_up_at⟩
    have lB : zL (pN h 22 m) B = n := ((cf_pN (S := fun _ _ => False) h 22 m).L o).trans l
    have lN : zL (pN h 22 m) (zn h) = m := va_up_at
    have eB : ∀ p, zE (pN h 22 m) B p = zE h B p := fun p => (cf_pN (S := fun _ _ => False) h 22 m).E o (fun z => z)
    have mn : (if nI m < nI n then nI m else nI n) = nI m := if_pos ((zi_lt (by omega) (by omega)).mpr (by omega))
    refine ⟨pC (pN h 22 m) B 0 (zn h) 0 m, ?_, ?_, oN, lN, fun p hp => ?_, rfl, rfl⟩
    · unfold f_J7_copyOf_59c91 bh
      rw [ck_yes o, if_neg d0, ck_yes h8, n1, ck_yes ⟨g1, by omega⟩]
      dsimp only
      rw [ck_yes oN, lB, mn, n1]
      rw [ck_yes ⟨⟨by decide, by decide, g1⟩, by show 0 + m ≤ _; omega, by show 0 + m ≤ zL _ (zn h); rw [lN]; omega⟩, ck_yes (fun i _ => fit22 _)]
      rfl
    · exact (cf_pN h 22 m).tr2 (cf_pC (S := fun a _ => a = zn h) (fun _ => rfl)) (fun a j ha z => by omega)
    · rw [zE_pC, if_pos rfl, if_pos ⟨by omega, by omega⟩, eB]
      congr 1
      omega
def paF (x j : Nat) : Prop := (x = 9 ∧ 403 ≤ j ∧ j ≤ 405) ∨ x = 11 ∨ x = 12
/-- the tape is cleared, the fault kept -/
theorem c_parse0 {h : Hp} {T : List Int32} {a : Nat} (q : atC h T a) (f : Int32) : ∃ h1, (∀ l1 : Int32, f_X3_parse_22 f 9 l1 h = if f = -1 then (ck (8 ≤ zn h1) (bh (pN h1 5 (kN 5)) (fun h13 => (f_J7_copyOf_59c91 (zR h13 401 9) (l1 * (8 : Int32)) h13).bind (fun q14 => ck (isO q14.2 (zn h1) 5) ((f_X4_init (zn h1) l1 q14.1 q14.2).bind (fun q15 => some (zn h1, q15))))))) else some (0, h1)) ∧ tpT h1 [] ∧ zI h1 405 9 = f ∧ cf paF h h1 ∧ nz h h1 ∧ zE h1 = zE h := by
  have o := q.1.1.1
  have f1 : cf paF h (pI (pI (pI h 403 9 0) 405 9 (-1)) 405 9 f) := ((cf_pI (S := paF) (Or.inl ⟨rfl, by omega, by omega⟩)).tr (cf_pI (Or.inl ⟨rfl, by omega, by omega⟩))).tr (cf_pI (Or.inl ⟨rfl, by omega, by omega⟩))
  refine ⟨pI (pI (pI h 403 9 0) 405 9 (-1)) 405 9 f, fun l1 => ?_, ?_, by rw [zI_pI, if_pos ⟨rfl, rfl⟩], f1, rfl, rfl⟩
  · unfold f_X3_parse_22 f_X3_clear
    rw [ck_yes o, ck_yes o]
    unfold bh
    dsimp only
    rw [bind_some9, ck_yes (show isO (pI (pI h 403 9 0) 405 9 (-1)) 9 4 from o)]
  · obtain ⟨⟨-, r0, r1, r2⟩, a10, a11, a12, e3, t, cc⟩ := q.1
    refine ⟨⟨o, r0, r1, r2⟩, a10, a11, a12, ?_, ⟨Nat.zero_le _, fun c hc => by cases hc⟩, fun k c hk => by simp at hk⟩
    rw [zI_pI, if_neg (by omega), zI_pI, if_neg (by omega), zI_pI, if_pos ⟨rfl, rfl⟩]
    rfl
/-- a program at p, made of what has been read -/
def pgN (h : Hp) (p : Nat) (P : Prg) : Prop := isO h p 5 ∧ zI h 500 p = nI P.length ∧ zR h 501 p = p + 1 ∧ isO h (p + 1) 22 ∧ zL h (p + 1) = 8 * P.length ∧ ∀ j, j < P.length → zE h (p + 1) (8 * j) = (stpAt P j).1 ∧ zE h (p + 1) (8 * j + 1) = (stpAt P j).2.1 ∧ zE h (p + 1) (8 * j + 2) = (stpAt P j).2.2.1 ∧ zE h (p + 1) (8 * j + 4) = (stpAt P j).2.2.2.1.1 ∧ zE h (p + 1) (8 * j + 5) = (stpAt P j).2.2.2.1.2 ∧ zE h (p + 1) (8 * j + 6) = (stpAt P j).2.2.2.2.1 ∧ zE h (p + 1) (8 * j + 7) = (stpAt P j).2.2.2.2.2
theorem c_parseY {h : Hp} {T : List Int32} {a : Nat} (q : atC h T a) (h8 : 20 ≤ zn h) {P : Prg} (hP : P.length ≤ 60) (hs : ∀ j, j < P.length → ∃ d, stQ h (8 * j) (stpAt P j) d) : ∃ h1, f_X3_parse_22 (-1) 9 (nI P.length) h = some (zn h, h1) ∧ tpT h1 [] ∧ zI h1 405 9 = -1 ∧ cf paF h h1 ∧ pgN h1 (zn h) P ∧ zn h1 = zn h + 2 ∧ zs h1 = zs h + kN 5 + 8 * P.length := by
  obtain ⟨g, x1, x2, x3, x4, x5, x6⟩ := c_parse0 q (-1)
  have zg : zn g = zn h := congrArg Prod.fst x5
  have sg : zs g = zs h := congrArg Prod.snd x5
  have e1 := x1 (nI P.length)
  have fN : cf (fun _ _ => False) g (pN g 5 (kN 5)) := cf_pN g 5 (kN 5)
  obtain ⟨⟨og, r0, r1, r2⟩, -, ⟨o11, l11⟩, -⟩ := id x2
  have o11N := fN.O o11
  have l11N := (fN.L o11).trans l11
  have r1N : zR (pN g 5 (kN 5)) 401 9 = 11 := (fN.R og (fun z => z)).trans r1
  have oP : isO (pN g 5 (kN 5)) (zn g) 5 := ⟨by omega, Nat.lt_succ_self _, va_up_at⟩
  have eE : ∀ p, zE (pN g 5 (kN 5)) 11 p = zE h 11 p := fun p => (fN.E o11 (fun z => z)).trans (by rw [x6])
  have znN : zn (pN g 5 (kN 5)) = zn g + 1 := rfl
  have zsN : zs (pN g 5 (kN 5)) = zs g + kN 5 := rfl
  generalize hk : pN g 5 (kN 5) = k at *
  obtain ⟨h2, y1, y2, y3, y4, y5, y6, y7⟩ := c_copy22 (m := 8 * P.length) o11N l11N (by omega) (by omega)
  have oP2 := y2.O oP
  have b8 : nI P.length * (8 : Int32) = nI (8 * P.length) := by rw [show (8 : Int32) = nI 8 from rfl, zi_mul, Nat.mul_comm]
  have f3 : cf (fun x j => x = zn g ∧ (j = 500 ∨ j = 501)) h2 (pR (pI h2 500 (zn g) (nI P.length)) 501 (zn g) (zn k)) := (cf_pI (S := fun x j => x = zn g ∧ (j = 500 ∨ j = 501)) ⟨rfl, Or.inl rfl⟩).tr (cf_pR ⟨rfl, Or.inr rfl⟩)
  have A : cf (fun x _ => x = zn g) g (pR (pI h2 500 (zn g) (nI P.length)) 501 (zn g) (zn k)) := ((fN.mono (fun _ _ _ z => z.elim)).tr (y2.mono (fun _ _ _ z => z.elim))).tr (f3.mono (fun x j _ z => z.1))
  refine ⟨pR (pI h2 500 (zn g) (nI P.length)) 501 (zn g) (zn k), ?_, x2.on A (fun j _ _ z => by omega) (fun j z => by omega), ?_, ?_, ?_, ?_, ?_⟩
  · rw [e1, if_pos rfl, ck_yes (by omega)]
    unfold bh
    dsimp only
    rw [r1N, b8, y1, bind_some9]
    dsimp only
    rw [ck_yes oP2]
    unfold f_X4_init bh
    rw [ck_yes oP2]
    dsimp only
    rw [bind_some9, zg]
  · rw [A.I og (by omega)]; exact x3
  · exact x4.tr2 A (fun x j hx z => by omega)
  · rw [← zg]
    refine ⟨f3.O oP2, ?_, ?_, ?_, ?_, fun j hj => ?_⟩
    · rw [zI_pR, zI_pI, if_pos ⟨rfl, rfl⟩]
    · rw [zR_pR, if_pos ⟨rfl, rfl⟩]; exact znN
    · rw [← znN]; exact f3.O y3
    · rw [← znN, f3.L y3]; exact y4
    · obtain ⟨d, ⟨k0, k1, k2, -⟩, k4, k5, k6, k7⟩ := hs j hj
      have u : ∀ y, y < 8 → zE (pR (pI h2 500 (zn g) (nI P.length)) 501 (zn g) (zn k)) (zn g + 1) (8 * j + y) = zE h 11 (8 * j + y) := fun y hy => by
        rw [zE_pR, zE_pI, ← znN, y5 _ (by omega), eE]
      have u0 := u 0 (by omega)
      rw [Nat.add_zero] at u0
      exact ⟨u0.trans k0, (u 1 (by omega)).trans k1, (u 2 (by omega)).trans k2, (u 4 (by omega)).trans k4, (u 5 (by omega)).trans k5, (u 6 (by omega)).trans k6, (u 7 (by omega)).trans k7⟩
  · show zn h2 = zn h + 2
    omega
  · show zs h2 = zs h + kN 5 + 8 * P.length
    omega
theorem pRs_d {T : List Int32} {a : Nat} {v : Int32} (ha : a ≤ T.length) (h : (pRs T a v).1 = true) : (pRs T a v).2.2.2 ≤ T.length := by
  have ac : ∀ c last : Int32, (pAC T a v c last).1 = true → (pAC T a v c last).2.2.2 ≤ T.length := fun c last h => by
    have t := pAC_t h
    unfold pAC at h t ⊢
    by_cases c1 : (pNm T last (a + 1)).1 = false
    · rw [if_pos c1] at h; cases h
    · rw [if_neg c1]
      have := (pNm_t (nof c1)).2
      show a + 1 ≤ T.length
      omega
  unfold pRs at h ⊢
  by_cases c1 : pk T a = 65
  · rw [if_pos c1] at h ⊢; exact ac _ _ h
  · rw [if_neg c1] at h ⊢
    by_cases c2 : pk T a = 67
    · rw [if_pos c2] at h ⊢; exact ac _ _ h
    · rw [if_neg c2] at h ⊢
      by_cases c3 : pk T a = 74
      · rw [if_pos c3]; exact Nat.zero_le _
      · rw [if_neg c3] at h ⊢
        by_cases c4 : pk T a = 87
        · rw [if_pos c4]; exact Nat.zero_le _
        · rw [if_neg c4] at h ⊢
          unfold pRk
          by_cases d1 : (pVl T a).1 = false
          · rw [if_pos d1]; exact Nat.zero_le _
          · rw [if_neg d1]
            by_cases d2 : pk T (pVl T a).2.1 = 43 ∨ pk T (pVl T a).2.1 = 45 ∨ pk T (pVl T a).2.1 = 42 ∨ pk T (pVl T a).2.1 = 60 ∨ pk T (pVl T a).2.1 = 61
            · rw [if_pos d2]; exact Nat.zero_le _
            · rw [if_neg d2]; exact Nat.zero_le _
theorem pSt_d {T : List Int32} {a : Nat} (h : (pSt T a).1 = true) : (pSt T a).2.2.2 ≤ T.length := by
  have t := pSt_t h
  unfold pSt at h t ⊢
  by_cases c : pk T a < 97 ∨ 104 < pk T a
  · rw [if_pos c] at h t ⊢
    by_cases c1 : pk T a = 71
    · rw [if_pos c1] at h t ⊢
      have := (pNm_t h).2
      show a + 1 ≤ T.length
      omega
    · rw [if_neg c1] at h t ⊢
      by_cases c2 : pk T a = 73
      · rw [if_pos c2] at h t ⊢
        by_cases d : (pBr T (a + 1)).1 = false
        · rw [if_pos d] at h; cases h
        · rw [if_neg d]
          exact (pBr_t (nof d)).2
      · rw [if_neg c2] at h t ⊢
        by_cases c3 : pk T a = 83
        · rw [if_pos c3]
          unfold pTw
          repeat' split
          all_goals exact Nat.zero_le _
        · rw [if_neg c3] at h t ⊢
          by_cases c5 : pk T a = 84 ∨ pk T a = 69
          · rw [if_pos c5]; exact Nat.zero_le _
          · rw [if_neg c5] at h; cases h
  · rw [if_neg c] at h t ⊢
    by_cases d : (pTk T 61 (a + 1)).1 = false
    · rw [if_pos d] at h; cases h
    · rw [if_neg d] at h ⊢
      obtain ⟨e1, e2⟩ := pTk_t (T := T) (c := 61) (by decide) (nof d)
      exact pRs_d (by rw [e1]; exact e2) h
theorem pLp_d {T : List Int32} : ∀ (k : Nat) (Q : List (StpQ × Nat)) (L : Nat → Int32) (a : Nat), (∀ s ∈ Q, s.2 ≤ T.length) → (pLp T k Q L a).1 = true → ∀ s ∈ (pLp T k Q L a).2.2.1, s.2 ≤ T.length
  | 0, Q, L, a, hs, h => by cases h
  | k + 1, Q, L, a, hs, h => by
    unfold pLp at h ⊢
    by_cases c1 : T.length ≤ a
    · rw [if_pos c1]; exact hs
    · rw [if_neg c1] at h ⊢
      by_cases c2 : Q.length = 60
      · rw [if_pos c2] at h; cases h
      · rw [if_neg c2] at h ⊢
        by_cases c3 : (pLb T L Q.length a).1 = false
        · rw [if_pos c3] at h; cases h
        · rw [if_neg c3] at h ⊢
          by_cases c4 : (pSt T (pLb T L Q.length a).2.1).1 = false
          · rw [if_pos c4] at h; cases h
          · rw [if_neg c4] at h ⊢
            by_cases c5 : (pTk T 59 (pSt T (pLb T L Q.length a).2.1).2.1).1 = false
            · rw [if_pos c5] at h; cases h
            · rw [if_neg c5] at h ⊢
              refine pLp_d k _ _ _ (fun s hm => ?_) h
              rcases List.mem_append.mp hm with z | z
              · exact hs s z
              · rw [List.mem_singleton.mp z]
                exact pSt_d (nof c4)
theorem rcf.F {h h1 : Hp} (p : rcf h h1) : cf paF h h1 := p.1.mono (fun x j _ z => by unfold rsS at z; unfold paF; omega)
theorem c_parse {h : Hp} {T : List Int32} (q : tpT h T) (h8 : 20 ≤ zn h) : ((prs T).1 = -1 → ∃ h1, f_X3_parse 9 h = some (zn h, h1) ∧ tpT h1 [] ∧ zI h1 405 9 = -1 ∧ cf paF h h1 ∧ pgN h1 (zn h) (prs T).2 ∧ zn h1 = zn h + 2 ∧ zs h1 = zs h + kN 5 + 8 * (prs T).2.length) ∧ ((prs T).1 ≠ -1 → ∃ h1, f_X3_parse 9 h = some (0, h1) ∧ tpT h1 [] ∧ zI h1 405 9 = (prs T).1 ∧ cf paF h h1 ∧ nz h h1) := by
  have hT := q.2.2.2.2.2.1
  have o := q.1.1
  obtain ⟨h1, x1, x2, x3, x4⟩ := c_rdSs q
  have o1 := x2.1.1.1
  have e404 := x2.2.1
  have zn1 : zn h1 = zn h := congrArg Prod.fst x3.2
  have zs1 : zs h1 = zs h := congrArg Prod.snd x3.2
  have tl := hT.1
  have le := x2.2.2
  unfold prs
  cases c : (pLp T 61 [] (fun _ => -1) 0).1 with
  | false =>
    rw [c, if_neg (show ¬ false = true from fun z => by cases z)] at x1
    rw [if_pos rfl]
    refine ⟨fun z => absurd z (zi_ne1 (by omega)), fun _ => ?_⟩
    obtain ⟨g, y1, y2, y3, y4, y5, -⟩ := c_parse0 x2 (nI (pLp T 61 [] (fun _ => -1) 0).2.1)
    refine ⟨g, ?_, y2, y3, x3.F.tr y4, y5.trans x3.2⟩
    have e1 := y1 (-1)
    have ne : ¬ nI (pLp T 61 [] (fun _ => -1) 0).2.1 = -1 := zi_ne1 (by omega)
    rw [if_neg ne] at e1
    unfold f_X3_parse
    rw [ck_yes o, x1, bind_some9]
    dsimp only
    rw [if_pos rfl, ck_yes o1, e404]
    exact e1
  | true =>
    rw [c, if_pos rfl] at x1
    rw [if_neg (show ¬ true = false from fun z => by cases z)]
    obtain ⟨l1, l2, l3⟩ := x4 c
    obtain ⟨k1, k2, k3⟩ := pLp_ok hT 61 [] (fun _ => -1) 0 (by simp) (fun s hs => by cases hs) lbO_0 c
    have kd := pLp_d (T := T) 61 [] (fun _ => -1) 0 (fun s hs => by cases hs) c
    generalize (pLp T 61 [] (fun _ => -1) 0).2.2.1 = Q at *
    generalize (pLp T 61 [] (fun _ => -1) 0).2.2.2 = L at *
    generalize (pLp T 61 [] (fun _ => -1) 0).2.1 = a at *
    have hx : ∀ s ∈ Q, jmp s.1 = true → ∃ x, x < 10 ∧ s.1.2.2.1 = nI x := fun s hs hj => by
      rcases (k1 s hs).2.2.1 with ⟨-, -, z⟩ | ⟨-, z⟩ | ⟨-, z⟩
      · rw [hj] at z; cases z
      · exact z
      · rw [hj] at z; cases z
    obtain ⟨h2, y1, y2, y3, y4⟩ := c_link (T := T) (a := a) (L := L) l2 hx Q.length 0 fz h1 (by omega) (fz_big (by omega)) x2 l1 (fun j s hj => by rw [if_neg (Nat.not_lt_zero j)]; exact l3 j s hj)
    rw [List.drop_zero] at y1 y4
    have z8 : nI (8 * 0) = (0 : Int32) := rfl
    rw [z8] at y1
    have o2 := y2.1.1.1
    have zn2 : zn h2 = zn h1 := congrArg Prod.fst y3.2
    have zs2 : zs h2 = zs h1 := congrArg Prod.snd y3.2
    have nq : ¬ nI Q.length = -1 := zi_ne1 (by omega)
    have base : ∀ f : Int32, f_X3_linkLabels_2 fz 9 (nI Q.length) 0 h1 = some (f, h2) → f_X3_parse 9 h = f_X3_parse_22 f 9 (nI Q.length) h2 := fun f hf => by
      unfold f_X3_parse
      rw [ck_yes o, x1, bind_some9]
      dsimp only
      rw [if_neg nq, ck_yes o1]
      unfold f_X3_linkLabels
      rw [hf, bind_some9]
    cases hk : pLk L Q with
    | some d =>
      rw [hk] at y1
      have db : d < 1000 := by
        unfold pLk at hk
        rw [Option.map_eq_some_iff] at hk
        obtain ⟨s, s1, s2⟩ := hk
        have := kd s (List.mem_of_find?_eq_some s1)
        omega
      refine ⟨fun z => absurd z (zi_ne1 (by omega)), fun _ => ?_⟩
      obtain ⟨g, w1, w2, w3, w4, w5, -⟩ := c_parse0 y2 (nI d)
      refine ⟨g, ?_, w2, w3, (x3.F.tr y3.F).tr w4, w5.trans (y3.2.trans x3.2)⟩
      have e1 := w1 (nI Q.length)
      rw [if_neg (show ¬ nI d = -1 from zi_ne1 (by omega))] at e1
      rw [base _ y1, e1]
    | none =>
      rw [hk] at y1
      refine ⟨fun _ => ?_, fun z => absurd rfl z⟩
      have st := y4 hk
      have ln : (Q.map (fun q => lnk L q.1)).length = Q.length := List.length_map ..
      obtain ⟨g, w1, w2, w3, w4, w5, w6, w7⟩ := c_parseY y2 (by omega) (P := Q.map (fun q => lnk L q.1)) (by rw [ln]; exact l2) (fun j hj => by
        rw [ln] at hj
        have hg : Q[j]? = some (Q[j]'hj) := List.getElem?_eq_getElem hj
        refine ⟨(Q[j]'hj).2, ?_⟩
        have e : stpAt (Q.map (fun q => lnk L q.1)) j = lnk L (Q[j]'hj).1 := by
          unfold stpAt
          rw [List.getD_eq_getElem?_getD, List.getElem?_map, hg]
          rfl
        rw [e]
        exact st j _ hg)
      rw [ln] at w1
      refine ⟨g, ?_, w2, w3, (x3.F.tr y3.F).tr w4, ?_, ?_, ?_⟩
      · rw [base _ y1, w1, zn2, zn1]
      · rw [← zn1, ← zn2]; exact w5
      · omega
      · show zs g = zs h + kN 5 + 8 * (Q.map (fun q => lnk L q.1)).length
        omega
