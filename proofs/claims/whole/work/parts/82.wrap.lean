/-! the law's tries: each call of the class, its answer put into out, its throws as numbers -/
set_option maxRecDepth 20000 in
theorem w_polygon (l : Launch) (h : hp_H) (a0 : Int32) (o : Nat → Int64) {B m n : Nat} (h1 : h[1]? = some (ES B m n)) (Qc P : hp_R → hp_H → Prop) (hM : hp_M l Y_es_polygon [.ref 1, .int a0] h false 1 6 Qc)
    (hr : ∀ r h', Qc r h' → (∃ v, r = .inl (some (.int v)) ∧ h'[89]? = some (LA 1 o) ∧ P (.inl (some (.int 0))) (h'.set 89 (LA 1 (vp_updL o 0 v.toInt64)))) ∨ ∃ c, c < 2 ∧ r = .inr c ∧ P (.inl (some (.int (nI (c + 1))))) h') : hp_M l Y_la_polygon [.ref 1, .int a0, .ref 89] h false 1 6 P := by
  refine hp_start (T := T_la_polygon) (by decide) rfl (fun σ => Nat.le_of_ble_eq_true rfl) (fun G C => ?_)
  obtain ⟨B1, O, z3, hR, hl, hw, hQ, hrt, hlk, hnm, hex, hnt, hth⟩ := id C
  obtain ⟨x1, x2, hxs, ex1, ex2⟩ := xt_2 hex
  have cov : ∀ x : ExceptionTableEntry, x.startPc = 0 → x.endPc = 9 → covers x 4 = true := fun x a b => by show (decide (x.startPc ≤ 4) && decide (4 < x.endPc)) = true; rw [a, b]; decide
  have s1 : x1.startPc = 0 := congrArg (fun q => q.1) ex1
  have d1 : x1.endPc = 9 := congrArg (fun q => q.2.1) ex1
  have p1 : x1.handlerPc = 12 := congrArg (fun q => q.2.2.1) ex1
  have t1 : x1.catchType = 13 := congrArg (fun q => q.2.2.2) ex1
  have s2 : x2.startPc = 0 := congrArg (fun q => q.1) ex2
  have d2 : x2.endPc = 9 := congrArg (fun q => q.2.1) ex2
  have p2 : x2.handlerPc = 15 := congrArg (fun q => q.2.2.1) ex2
  have t2 : x2.catchType = 15 := congrArg (fun q => q.2.2.2) ex2
  refine hp_run_sound hp_co V_la_polygon C (fun _ _ _ _ _ _ _ hq => hq) [4] 12 _ _ _ _ _ _ _ ?_
  refine hs_tryV V_la_polygon C (i := 7) (Y' := Y_es_polygon) rfl rfl (as := [.int a0]) (rest := [.int 0, .ref 89]) (a := 1) rfl h1 rfl hM (by decide) (by decide) (by decide) (by decide) (fun r h' hq => ?_) rfl
  rcases hr r h' hq with ⟨v, rfl, k89, hP⟩ | ⟨c, hc, rfl, hP⟩
  · refine hp_run_sound hp_co V_la_polygon C (fun _ _ _ _ _ _ _ hq => hq) [] 8 _ _ _ _ _ _ _ ?_
    refine Exists.intro 1 (Exists.intro o (And.intro k89 (And.intro (in_nI (show 0 < 1 by decide) (by decide)) ?_)))
    exact And.intro rfl (And.intro rfl hP)
  · rcases (show c = 0 ∨ c = 1 by omega) with hc0 | hc0
    · subst hc0
      have kk : hp_W G 13 [] [] h' (true && false) (0 + 1) (0 + 6) := by
        refine hp_run_sound hp_co V_la_polygon C (fun _ _ _ _ _ _ _ hq => hq) [] 4 _ _ _ _ _ _ _ ?_
        exact And.intro rfl (And.intro rfl hP)
      exact hp_catch_in B1 O hth (i := 3) [] x1 [x2] hxs (fun z hz => by cases hz) (cov x1 s1 d1) (by rw [t1]; decide) (by rw [t1]; exact lw_c0) lw_k0 p1 (by rw [z3]; decide) (Or.inr ⟨3, hq_dec V_la_polygon rfl rfl, rfl, rfl⟩) kk
    · subst hc0
      have kk : hp_W G 16 [] [] h' (true && false) (0 + 1) (0 + 6) := by
        refine hp_run_sound hp_co V_la_polygon C (fun _ _ _ _ _ _ _ hq => hq) [] 4 _ _ _ _ _ _ _ ?_
        exact And.intro rfl (And.intro rfl hP)
      exact hp_catch_in B1 O hth (i := 3) [x1] x2 [] hxs (fun z hz => by
        simp only [List.mem_cons, List.not_mem_nil, or_false] at hz
        subst hz
        exact ⟨by rw [t1]; decide, "java/lang/IndexOutOfBoundsException", by rw [t1]; exact lw_c0, by decide⟩) (cov x2 s2 d2) (by rw [t2]; decide) (by rw [t2]; exact lw_c1) lw_k1 p2 (by rw [z3]; decide) (Or.inr ⟨3, hq_dec V_la_polygon rfl rfl, rfl, rfl⟩) kk
set_option maxRecDepth 20000 in
theorem w_corner (l : Launch) (h : hp_H) (a0 : Int32) (a1 : Int64) (a2 : Int64) (o : Nat → Int64) {B m n : Nat} (h1 : h[1]? = some (ES B m n)) (Qc P : hp_R → hp_H → Prop) (hM : hp_M l Y_es_corner [.ref 1, .int a0, .long a1, .long a2] h false 1 6 Qc)
    (hr : ∀ r h', Qc r h' → (∃ v, r = .inl (some (.int v)) ∧ h'[89]? = some (LA 1 o) ∧ P (.inl (some (.int 0))) (h'.set 89 (LA 1 (vp_updL o 0 (if v = 0 then 0 else 1))))) ∨ ∃ c, c < 3 ∧ r = .inr c ∧ P (.inl (some (.int (nI (c + 1))))) h') : hp_M l Y_la_corner [.ref 1, .int a0, .long a1, .long a2, .ref 89] h false 1 6 P := by
  refine hp_start (T := T_la_corner) (by decide) rfl (fun σ => Nat.le_of_ble_eq_true rfl) (fun G C => ?_)
  obtain ⟨B1, O, z3, hR, hl, hw, hQ, hrt, hlk, hnm, hex, hnt, hth⟩ := id C
  obtain ⟨x1, x2, x3, hxs, ex1, ex2, ex3⟩ := xt_3 hex
  have cov : ∀ x : ExceptionTableEntry, x.startPc = 0 → x.endPc = 20 → covers x 8 = true := fun x a b => by show (decide (x.startPc ≤ 8) && decide (8 < x.endPc)) = true; rw [a, b]; decide
  have s1 : x1.startPc = 0 := congrArg (fun q => q.1) ex1
  have d1 : x1.endPc = 20 := congrArg (fun q => q.2.1) ex1
  have p1 : x1.handlerPc = 23 := congrArg (fun q => q.2.2.1) ex1
  have t1 : x1.catchType = 13 := congrArg (fun q => q.2.2.2) ex1
  have s2 : x2.startPc = 0 := congrArg (fun q => q.1) ex2
  have d2 : x2.endPc = 20 := congrArg (fun q => q.2.1) ex2
  have p2 : x2.handlerPc = 27 := congrArg (fun q => q.2.2.1) ex2
  have t2 : x2.catchType = 15 := congrArg (fun q => q.2.2.2) ex2
  have s3 : x3.startPc = 0 := congrArg (fun q => q.1) ex3
  have d3 : x3.endPc = 20 := congrArg (fun q => q.2.1) ex3
  have p3 : x3.handlerPc = 31 := congrArg (fun q => q.2.2.1) ex3
  have t3 : x3.catchType = 21 := congrArg (fun q => q.2.2.2) ex3
  refine hp_run_sound hp_co V_la_corner C (fun _ _ _ _ _ _ _ hq => hq) [8] 12 _ _ _ _ _ _ _ ?_
  refine hs_tryV V_la_corner C (i := 17) (Y' := Y_es_corner) rfl rfl (as := [.int a0, .long a1, .long a2]) (rest := [.int 0, .ref 89]) (a := 1) rfl h1 rfl hM (by decide) (by decide) (by decide) (by decide) (fun r h' hq => ?_) rfl
  rcases hr r h' hq with ⟨v, rfl, k89, hP⟩ | ⟨c, hc, rfl, hP⟩
  · refine hp_run_sound hp_co V_la_corner C (fun _ _ _ _ _ _ _ hq => hq) [] 10 _ _ _ _ _ _ _ ?_
    refine And.intro (fun q => ?_) (fun q => ?_)
    · rw [if_pos (show v = 0 from q)] at hP
      refine Exists.intro 1 (Exists.intro o (And.intro k89 (And.intro (in_nI (show 0 < 1 by decide) (by decide)) ?_)))
      exact And.intro rfl (And.intro rfl hP)
    · rw [if_neg (show ¬ v = 0 from q)] at hP
      refine Exists.intro 1 (Exists.intro o (And.intro k89 (And.intro (in_nI (show 0 < 1 by decide) (by decide)) ?_)))
      exact And.intro rfl (And.intro rfl hP)
  · rcases (show c = 0 ∨ c = 1 ∨ c = 2 by omega) with hc0 | hc0 | hc0
    · subst hc0
      have kk : hp_W G 25 [] [] h' (true && false) (0 + 1) (0 + 6) := by
        refine hp_run_sound hp_co V_la_corner C (fun _ _ _ _ _ _ _ hq => hq) [] 4 _ _ _ _ _ _ _ ?_
        exact And.intro rfl (And.intro rfl hP)
      exact hp_catch_in B1 O hth (i := 7) [] x1 [x2, x3] hxs (fun z hz => by cases hz) (cov x1 s1 d1) (by rw [t1]; decide) (by rw [t1]; exact lw_c0) lw_k0 p1 (by rw [z3]; decide) (Or.inl ⟨hq_dec V_la_corner rfl rfl, rfl⟩) kk
    · subst hc0
      have kk : hp_W G 29 [] [] h' (true && false) (0 + 1) (0 + 6) := by
        refine hp_run_sound hp_co V_la_corner C (fun _ _ _ _ _ _ _ hq => hq) [] 4 _ _ _ _ _ _ _ ?_
        exact And.intro rfl (And.intro rfl hP)
      exact hp_catch_in B1 O hth (i := 7) [x1] x2 [x3] hxs (fun z hz => by
        simp only [List.mem_cons, List.not_mem_nil, or_false] at hz
        subst hz
        exact ⟨by rw [t1]; decide, "java/lang/IndexOutOfBoundsException", by rw [t1]; exact lw_c0, by decide⟩) (cov x2 s2 d2) (by rw [t2]; decide) (by rw [t2]; exact lw_c1) lw_k1 p2 (by rw [z3]; decide) (Or.inl ⟨hq_dec V_la_corner rfl rfl, rfl⟩) kk
    · subst hc0
      have kk : hp_W G 33 [] [] h' (true && false) (0 + 1) (0 + 6) := by
        refine hp_run_sound hp_co V_la_corner C (fun _ _ _ _ _ _ _ hq => hq) [] 4 _ _ _ _ _ _ _ ?_
        exact And.intro rfl (And.intro rfl hP)
      exact hp_catch_in B1 O hth (i := 7) [x1, x2] x3 [] hxs (fun z hz => by
        simp only [List.mem_cons, List.not_mem_nil, or_false] at hz
        rcases hz with e | e
        · subst e
          exact ⟨by rw [t1]; decide, "java/lang/IndexOutOfBoundsException", by rw [t1]; exact lw_c0, by decide⟩
        · subst e
          exact ⟨by rw [t2]; decide, "java/lang/IllegalStateException", by rw [t2]; exact lw_c1, by decide⟩) (cov x3 s3 d3) (by rw [t3]; decide) (by rw [t3]; exact lw_c2) lw_k2 p3 (by rw [z3]; decide) (Or.inl ⟨hq_dec V_la_corner rfl rfl, rfl⟩) kk
set_option maxRecDepth 20000 in
theorem w_op (l : Launch) (h : hp_H) (a0 : Int32) (a1 : Int32) (a2 : Int32) (o : Nat → Int64) {B m n : Nat} (h1 : h[1]? = some (ES B m n)) (Qc P : hp_R → hp_H → Prop) (hM : hp_M l Y_es_op [.ref 1, .int a0, .int a1, .int a2] h false 1 6 Qc)
    (hr : ∀ r h', Qc r h' → (∃ v, r = .inl (some (.int v)) ∧ h'[89]? = some (LA 1 o) ∧ P (.inl (some (.int 0))) (h'.set 89 (LA 1 (vp_updL o 0 v.toInt64)))) ∨ ∃ c, c < 3 ∧ r = .inr c ∧ P (.inl (some (.int (nI (c + 1))))) h') : hp_M l Y_la_op [.ref 1, .int a0, .int a1, .int a2, .ref 89] h false 1 6 P := by
  refine hp_start (T := T_la_op) (by decide) rfl (fun σ => Nat.le_of_ble_eq_true rfl) (fun G C => ?_)
  obtain ⟨B1, O, z3, hR, hl, hw, hQ, hrt, hlk, hnm, hex, hnt, hth⟩ := id C
  obtain ⟨x1, x2, x3, hxs, ex1, ex2, ex3⟩ := xt_3 hex
  have cov : ∀ x : ExceptionTableEntry, x.startPc = 0 → x.endPc = 12 → covers x 7 = true := fun x a b => by show (decide (x.startPc ≤ 7) && decide (7 < x.endPc)) = true; rw [a, b]; decide
  have s1 : x1.startPc = 0 := congrArg (fun q => q.1) ex1
  have d1 : x1.endPc = 12 := congrArg (fun q => q.2.1) ex1
  have p1 : x1.handlerPc = 15 := congrArg (fun q => q.2.2.1) ex1
  have t1 : x1.catchType = 13 := congrArg (fun q => q.2.2.2) ex1
  have s2 : x2.startPc = 0 := congrArg (fun q => q.1) ex2
  have d2 : x2.endPc = 12 := congrArg (fun q => q.2.1) ex2
  have p2 : x2.handlerPc = 19 := congrArg (fun q => q.2.2.1) ex2
  have t2 : x2.catchType = 15 := congrArg (fun q => q.2.2.2) ex2
  have s3 : x3.startPc = 0 := congrArg (fun q => q.1) ex3
  have d3 : x3.endPc = 12 := congrArg (fun q => q.2.1) ex3
  have p3 : x3.handlerPc = 23 := congrArg (fun q => q.2.2.1) ex3
  have t3 : x3.catchType = 21 := congrArg (fun q => q.2.2.2) ex3
  refine hp_run_sound hp_co V_la_op C (fun _ _ _ _ _ _ _ hq => hq) [7] 12 _ _ _ _ _ _ _ ?_
  refine hs_tryV V_la_op C (i := 23) (Y' := Y_es_op) rfl rfl (as := [.int a0, .int a1, .int a2]) (rest := [.int 0, .ref 89]) (a := 1) rfl h1 rfl hM (by decide) (by decide) (by decide) (by decide) (fun r h' hq => ?_) rfl
  rcases hr r h' hq with ⟨v, rfl, k89, hP⟩ | ⟨c, hc, rfl, hP⟩
  · refine hp_run_sound hp_co V_la_op C (fun _ _ _ _ _ _ _ hq => hq) [] 8 _ _ _ _ _ _ _ ?_
    refine Exists.intro 1 (Exists.intro o (And.intro k89 (And.intro (in_nI (show 0 < 1 by decide) (by decide)) ?_)))
    exact And.intro rfl (And.intro rfl hP)
  · rcases (show c = 0 ∨ c = 1 ∨ c = 2 by omega) with hc0 | hc0 | hc0
    · subst hc0
      have kk : hp_W G 17 [] [] h' (true && false) (0 + 1) (0 + 6) := by
        refine hp_run_sound hp_co V_la_op C (fun _ _ _ _ _ _ _ hq => hq) [] 4 _ _ _ _ _ _ _ ?_
        exact And.intro rfl (And.intro rfl hP)
      exact hp_catch_in B1 O hth (i := 5) [] x1 [x2, x3] hxs (fun z hz => by cases hz) (cov x1 s1 d1) (by rw [t1]; decide) (by rw [t1]; exact lw_c0) lw_k0 p1 (by rw [z3]; decide) (Or.inl ⟨hq_dec V_la_op rfl rfl, rfl⟩) kk
    · subst hc0
      have kk : hp_W G 21 [] [] h' (true && false) (0 + 1) (0 + 6) := by
        refine hp_run_sound hp_co V_la_op C (fun _ _ _ _ _ _ _ hq => hq) [] 4 _ _ _ _ _ _ _ ?_
        exact And.intro rfl (And.intro rfl hP)
      exact hp_catch_in B1 O hth (i := 5) [x1] x2 [x3] hxs (fun z hz => by
        simp only [List.mem_cons, List.not_mem_nil, or_false] at hz
        subst hz
        exact ⟨by rw [t1]; decide, "java/lang/IndexOutOfBoundsException", by rw [t1]; exact lw_c0, by decide⟩) (cov x2 s2 d2) (by rw [t2]; decide) (by rw [t2]; exact lw_c1) lw_k1 p2 (by rw [z3]; decide) (Or.inl ⟨hq_dec V_la_op rfl rfl, rfl⟩) kk
    · subst hc0
      have kk : hp_W G 25 [] [] h' (true && false) (0 + 1) (0 + 6) := by
        refine hp_run_sound hp_co V_la_op C (fun _ _ _ _ _ _ _ hq => hq) [] 4 _ _ _ _ _ _ _ ?_
        exact And.intro rfl (And.intro rfl hP)
      exact hp_catch_in B1 O hth (i := 5) [x1, x2] x3 [] hxs (fun z hz => by
        simp only [List.mem_cons, List.not_mem_nil, or_false] at hz
        rcases hz with e | e
        · subst e
          exact ⟨by rw [t1]; decide, "java/lang/IndexOutOfBoundsException", by rw [t1]; exact lw_c0, by decide⟩
        · subst e
          exact ⟨by rw [t2]; decide, "java/lang/IllegalStateException", by rw [t2]; exact lw_c1, by decide⟩) (cov x3 s3 d3) (by rw [t3]; decide) (by rw [t3]; exact lw_c2) lw_k2 p3 (by rw [z3]; decide) (Or.inl ⟨hq_dec V_la_op rfl rfl, rfl⟩) kk
set_option maxRecDepth 20000 in
theorem w_size (l : Launch) (h : hp_H) (a0 : Int32) (a1 : Int64) (a2 : Int32) (o : Nat → Int64) {B m n : Nat} (h1 : h[1]? = some (ES B m n)) (Qc P : hp_R → hp_H → Prop) (hM : hp_M l Y_es_size [.ref 1, .int a0, .long a1, .int a2] h false 1 6 Qc)
    (hr : ∀ r h', Qc r h' → (∃ v, r = .inl (some (.int v)) ∧ h'[89]? = some (LA 1 o) ∧ P (.inl (some (.int 0))) (h'.set 89 (LA 1 (vp_updL o 0 v.toInt64)))) ∨ ∃ c, c < 3 ∧ r = .inr c ∧ P (.inl (some (.int (nI (c + 1))))) h') : hp_M l Y_la_size [.ref 1, .int a0, .long a1, .int a2, .ref 89] h false 1 6 P := by
  refine hp_start (T := T_la_size) (by decide) rfl (fun σ => Nat.le_of_ble_eq_true rfl) (fun G C => ?_)
  obtain ⟨B1, O, z3, hR, hl, hw, hQ, hrt, hlk, hnm, hex, hnt, hth⟩ := id C
  obtain ⟨x1, x2, x3, hxs, ex1, ex2, ex3⟩ := xt_3 hex
  have cov : ∀ x : ExceptionTableEntry, x.startPc = 0 → x.endPc = 13 → covers x 8 = true := fun x a b => by show (decide (x.startPc ≤ 8) && decide (8 < x.endPc)) = true; rw [a, b]; decide
  have s1 : x1.startPc = 0 := congrArg (fun q => q.1) ex1
  have d1 : x1.endPc = 13 := congrArg (fun q => q.2.1) ex1
  have p1 : x1.handlerPc = 16 := congrArg (fun q => q.2.2.1) ex1
  have t1 : x1.catchType = 13 := congrArg (fun q => q.2.2.2) ex1
  have s2 : x2.startPc = 0 := congrArg (fun q => q.1) ex2
  have d2 : x2.endPc = 13 := congrArg (fun q => q.2.1) ex2
  have p2 : x2.handlerPc = 20 := congrArg (fun q => q.2.2.1) ex2
  have t2 : x2.catchType = 15 := congrArg (fun q => q.2.2.2) ex2
  have s3 : x3.startPc = 0 := congrArg (fun q => q.1) ex3
  have d3 : x3.endPc = 13 := congrArg (fun q => q.2.1) ex3
  have p3 : x3.handlerPc = 24 := congrArg (fun q => q.2.2.1) ex3
  have t3 : x3.catchType = 21 := congrArg (fun q => q.2.2.2) ex3
  refine hp_run_sound hp_co V_la_size C (fun _ _ _ _ _ _ _ hq => hq) [8] 12 _ _ _ _ _ _ _ ?_
  refine hs_tryV V_la_size C (i := 27) (Y' := Y_es_size) rfl rfl (as := [.int a0, .long a1, .int a2]) (rest := [.int 0, .ref 89]) (a := 1) rfl h1 rfl hM (by decide) (by decide) (by decide) (by decide) (fun r h' hq => ?_) rfl
  rcases hr r h' hq with ⟨v, rfl, k89, hP⟩ | ⟨c, hc, rfl, hP⟩
  · refine hp_run_sound hp_co V_la_size C (fun _ _ _ _ _ _ _ hq => hq) [] 8 _ _ _ _ _ _ _ ?_
    refine Exists.intro 1 (Exists.intro o (And.intro k89 (And.intro (in_nI (show 0 < 1 by decide) (by decide)) ?_)))
    exact And.intro rfl (And.intro rfl hP)
  · rcases (show c = 0 ∨ c = 1 ∨ c = 2 by omega) with hc0 | hc0 | hc0
    · subst hc0
      have kk : hp_W G 18 [] [] h' (true && false) (0 + 1) (0 + 6) := by
        refine hp_run_sound hp_co V_la_size C (fun _ _ _ _ _ _ _ hq => hq) [] 4 _ _ _ _ _ _ _ ?_
        exact And.intro rfl (And.intro rfl hP)
      exact hp_catch_in B1 O hth (i := 6) [] x1 [x2, x3] hxs (fun z hz => by cases hz) (cov x1 s1 d1) (by rw [t1]; decide) (by rw [t1]; exact lw_c0) lw_k0 p1 (by rw [z3]; decide) (Or.inl ⟨hq_dec V_la_size rfl rfl, rfl⟩) kk
    · subst hc0
      have kk : hp_W G 22 [] [] h' (true && false) (0 + 1) (0 + 6) := by
        refine hp_run_sound hp_co V_la_size C (fun _ _ _ _ _ _ _ hq => hq) [] 4 _ _ _ _ _ _ _ ?_
        exact And.intro rfl (And.intro rfl hP)
      exact hp_catch_in B1 O hth (i := 6) [x1] x2 [x3] hxs (fun z hz => by
        simp only [List.mem_cons, List.not_mem_nil, or_false] at hz
        subst hz
        exact ⟨by rw [t1]; decide, "java/lang/IndexOutOfBoundsException", by rw [t1]; exact lw_c0, by decide⟩) (cov x2 s2 d2) (by rw [t2]; decide) (by rw [t2]; exact lw_c1) lw_k1 p2 (by rw [z3]; decide) (Or.inl ⟨hq_dec V_la_size rfl rfl, rfl⟩) kk
    · subst hc0
      have kk : hp_W G 26 [] [] h' (true && false) (0 + 1) (0 + 6) := by
        refine hp_run_sound hp_co V_la_size C (fun _ _ _ _ _ _ _ hq => hq) [] 4 _ _ _ _ _ _ _ ?_
        exact And.intro rfl (And.intro rfl hP)
      exact hp_catch_in B1 O hth (i := 6) [x1, x2] x3 [] hxs (fun z hz => by
        simp only [List.mem_cons, List.not_mem_nil, or_false] at hz
        rcases hz with e | e
        · subst e
          exact ⟨by rw [t1]; decide, "java/lang/IndexOutOfBoundsException", by rw [t1]; exact lw_c0, by decide⟩
        · subst e
          exact ⟨by rw [t2]; decide, "java/lang/IllegalStateException", by rw [t2]; exact lw_c1, by decide⟩) (cov x3 s3 d3) (by rw [t3]; decide) (by rw [t3]; exact lw_c2) lw_k2 p3 (by rw [z3]; decide) (Or.inl ⟨hq_dec V_la_size rfl rfl, rfl⟩) kk
set_option maxRecDepth 20000 in
theorem w_shapes (l : Launch) (h : hp_H) (a0 : Int32) (o : Nat → Int64) {B m n : Nat} (h1 : h[1]? = some (ES B m n)) (Qc P : hp_R → hp_H → Prop) (hM : hp_M l Y_es_shapes [.ref 1, .int a0] h false 1 6 Qc)
    (hr : ∀ r h', Qc r h' → (∃ v, r = .inl (some (.int v)) ∧ h'[89]? = some (LA 1 o) ∧ P (.inl (some (.int 0))) (h'.set 89 (LA 1 (vp_updL o 0 v.toInt64)))) ∨ ∃ c, c < 1 ∧ r = .inr c ∧ P (.inl (some (.int (nI (c + 1))))) h') : hp_M l Y_la_shapes [.ref 1, .int a0, .ref 89] h false 1 6 P := by
  refine hp_start (T := T_la_shapes) (by decide) rfl (fun σ => Nat.le_of_ble_eq_true rfl) (fun G C => ?_)
  obtain ⟨B1, O, z3, hR, hl, hw, hQ, hrt, hlk, hnm, hex, hnt, hth⟩ := id C
  obtain ⟨x1, hxs, ex1⟩ := xt_1 hex
  have cov : ∀ x : ExceptionTableEntry, x.startPc = 0 → x.endPc = 9 → covers x 4 = true := fun x a b => by show (decide (x.startPc ≤ 4) && decide (4 < x.endPc)) = true; rw [a, b]; decide
  have s1 : x1.startPc = 0 := congrArg (fun q => q.1) ex1
  have d1 : x1.endPc = 9 := congrArg (fun q => q.2.1) ex1
  have p1 : x1.handlerPc = 12 := congrArg (fun q => q.2.2.1) ex1
  have t1 : x1.catchType = 13 := congrArg (fun q => q.2.2.2) ex1
  refine hp_run_sound hp_co V_la_shapes C (fun _ _ _ _ _ _ _ hq => hq) [4] 12 _ _ _ _ _ _ _ ?_
  refine hs_tryV V_la_shapes C (i := 31) (Y' := Y_es_shapes) rfl rfl (as := [.int a0]) (rest := [.int 0, .ref 89]) (a := 1) rfl h1 rfl hM (by decide) (by decide) (by decide) (by decide) (fun r h' hq => ?_) rfl
  rcases hr r h' hq with ⟨v, rfl, k89, hP⟩ | ⟨c, hc, rfl, hP⟩
  · refine hp_run_sound hp_co V_la_shapes C (fun _ _ _ _ _ _ _ hq => hq) [] 8 _ _ _ _ _ _ _ ?_
    refine Exists.intro 1 (Exists.intro o (And.intro k89 (And.intro (in_nI (show 0 < 1 by decide) (by decide)) ?_)))
    exact And.intro rfl (And.intro rfl hP)
  · have hc0 : c = 0 := by omega
    subst hc0
    have kk : hp_W G 13 [] [] h' (true && false) (0 + 1) (0 + 6) := by
      refine hp_run_sound hp_co V_la_shapes C (fun _ _ _ _ _ _ _ hq => hq) [] 4 _ _ _ _ _ _ _ ?_
      exact And.intro rfl (And.intro rfl hP)
    exact hp_catch_in B1 O hth (i := 3) [] x1 [] hxs (fun z hz => by cases hz) (cov x1 s1 d1) (by rw [t1]; decide) (by rw [t1]; exact lw_c0) lw_k0 p1 (by rw [z3]; decide) (Or.inr ⟨3, hq_dec V_la_shapes rfl rfl, rfl, rfl⟩) kk
set_option maxRecDepth 20000 in
theorem w_at (l : Launch) (h : hp_H) (a0 : Int32) (a1 : Int32) (a2 : Int32) (a3 : Int32) (o : Nat → Int64) {B m n : Nat} (h1 : h[1]? = some (ES B m n)) (Qc P : hp_R → hp_H → Prop) (hM : hp_M l Y_es_at [.ref 1, .int a0, .int a1, .int a2, .int a3] h false 1 6 Qc)
    (hr : ∀ r h', Qc r h' → (∃ v, r = .inl (some (.long v)) ∧ h'[89]? = some (LA 1 o) ∧ P (.inl (some (.int 0))) (h'.set 89 (LA 1 (vp_updL o 0 v)))) ∨ ∃ c, c < 1 ∧ r = .inr c ∧ P (.inl (some (.int (nI (c + 1))))) h') : hp_M l Y_la_at [.ref 1, .int a0, .int a1, .int a2, .int a3, .ref 89] h false 1 6 P := by
  refine hp_start (T := T_la_at) (by decide) rfl (fun σ => Nat.le_of_ble_eq_true rfl) (fun G C => ?_)
  obtain ⟨B1, O, z3, hR, hl, hw, hQ, hrt, hlk, hnm, hex, hnt, hth⟩ := id C
  obtain ⟨x1, hxs, ex1⟩ := xt_1 hex
  have cov : ∀ x : ExceptionTableEntry, x.startPc = 0 → x.endPc = 13 → covers x 9 = true := fun x a b => by show (decide (x.startPc ≤ 9) && decide (9 < x.endPc)) = true; rw [a, b]; decide
  have s1 : x1.startPc = 0 := congrArg (fun q => q.1) ex1
  have d1 : x1.endPc = 13 := congrArg (fun q => q.2.1) ex1
  have p1 : x1.handlerPc = 16 := congrArg (fun q => q.2.2.1) ex1
  have t1 : x1.catchType = 13 := congrArg (fun q => q.2.2.2) ex1
  refine hp_run_sound hp_co V_la_at C (fun _ _ _ _ _ _ _ hq => hq) [9] 12 _ _ _ _ _ _ _ ?_
  refine hs_tryV V_la_at C (i := 34) (Y' := Y_es_at) rfl rfl (as := [.int a0, .int a1, .int a2, .int a3]) (rest := [.int 0, .ref 89]) (a := 1) rfl h1 rfl hM (by decide) (by decide) (by decide) (by decide) (fun r h' hq => ?_) rfl
  rcases hr r h' hq with ⟨v, rfl, k89, hP⟩ | ⟨c, hc, rfl, hP⟩
  · refine hp_run_sound hp_co V_la_at C (fun _ _ _ _ _ _ _ hq => hq) [] 8 _ _ _ _ _ _ _ ?_
    refine Exists.intro 1 (Exists.intro o (And.intro k89 (And.intro (in_nI (show 0 < 1 by decide) (by decide)) ?_)))
    exact And.intro rfl (And.intro rfl hP)
  · have hc0 : c = 0 := by omega
    subst hc0
    have kk : hp_W G 18 [] [] h' (true && false) (0 + 1) (0 + 6) := by
      refine hp_run_sound hp_co V_la_at C (fun _ _ _ _ _ _ _ hq => hq) [] 4 _ _ _ _ _ _ _ ?_
      exact And.intro rfl (And.intro rfl hP)
    exact hp_catch_in B1 O hth (i := 6) [] x1 [] hxs (fun z hz => by cases hz) (cov x1 s1 d1) (by rw [t1]; decide) (by rw [t1]; exact lw_c0) lw_k0 p1 (by rw [z3]; decide) (Or.inl ⟨hq_dec V_la_at rfl rfl, rfl⟩) kk
set_option maxRecDepth 20000 in
theorem w_in (l : Launch) (h : hp_H) (a0 : Int32) (a1 : Int64) (a2 : Int64) (o : Nat → Int64) {B m n : Nat} (h1 : h[1]? = some (ES B m n)) (Qc P : hp_R → hp_H → Prop) (hM : hp_M l Y_es_in [.ref 1, .int a0, .long a1, .long a2] h false 1 6 Qc)
    (hr : ∀ r h', Qc r h' → (∃ v, r = .inl (some (.int v)) ∧ h'[89]? = some (LA 1 o) ∧ P (.inl (some (.int 0))) (h'.set 89 (LA 1 (vp_updL o 0 (if v = 0 then 0 else 1))))) ∨ ∃ c, c < 1 ∧ r = .inr c ∧ P (.inl (some (.int (nI (c + 1))))) h') : hp_M l Y_la_in [.ref 1, .int a0, .long a1, .long a2, .ref 89] h false 1 6 P := by
  refine hp_start (T := T_la_in) (by decide) rfl (fun σ => Nat.le_of_ble_eq_true rfl) (fun G C => ?_)
  obtain ⟨B1, O, z3, hR, hl, hw, hQ, hrt, hlk, hnm, hex, hnt, hth⟩ := id C
  obtain ⟨x1, hxs, ex1⟩ := xt_1 hex
  have cov : ∀ x : ExceptionTableEntry, x.startPc = 0 → x.endPc = 20 → covers x 8 = true := fun x a b => by show (decide (x.startPc ≤ 8) && decide (8 < x.endPc)) = true; rw [a, b]; decide
  have s1 : x1.startPc = 0 := congrArg (fun q => q.1) ex1
  have d1 : x1.endPc = 20 := congrArg (fun q => q.2.1) ex1
  have p1 : x1.handlerPc = 23 := congrArg (fun q => q.2.2.1) ex1
  have t1 : x1.catchType = 13 := congrArg (fun q => q.2.2.2) ex1
  refine hp_run_sound hp_co V_la_in C (fun _ _ _ _ _ _ _ hq => hq) [8] 12 _ _ _ _ _ _ _ ?_
  refine hs_tryV V_la_in C (i := 38) (Y' := Y_es_in) rfl rfl (as := [.int a0, .long a1, .long a2]) (rest := [.int 0, .ref 89]) (a := 1) rfl h1 rfl hM (by decide) (by decide) (by decide) (by decide) (fun r h' hq => ?_) rfl
  rcases hr r h' hq with ⟨v, rfl, k89, hP⟩ | ⟨c, hc, rfl, hP⟩
  · refine hp_run_sound hp_co V_la_in C (fun _ _ _ _ _ _ _ hq => hq) [] 10 _ _ _ _ _ _ _ ?_
    refine And.intro (fun q => ?_) (fun q => ?_)
    · rw [if_pos (show v = 0 from q)] at hP
      refine Exists.intro 1 (Exists.intro o (And.intro k89 (And.intro (in_nI (show 0 < 1 by decide) (by decide)) ?_)))
      exact And.intro rfl (And.intro rfl hP)
    · rw [if_neg (show ¬ v = 0 from q)] at hP
      refine Exists.intro 1 (Exists.intro o (And.intro k89 (And.intro (in_nI (show 0 < 1 by decide) (by decide)) ?_)))
      exact And.intro rfl (And.intro rfl hP)
  · have hc0 : c = 0 := by omega
    subst hc0
    have kk : hp_W G 25 [] [] h' (true && false) (0 + 1) (0 + 6) := by
      refine hp_run_sound hp_co V_la_in C (fun _ _ _ _ _ _ _ hq => hq) [] 4 _ _ _ _ _ _ _ ?_
      exact And.intro rfl (And.intro rfl hP)
    exact hp_catch_in B1 O hth (i := 7) [] x1 [] hxs (fun z hz => by cases hz) (cov x1 s1 d1) (by rw [t1]; decide) (by rw [t1]; exact lw_c0) lw_k0 p1 (by rw [z3]; decide) (Or.inl ⟨hq_dec V_la_in rfl rfl, rfl⟩) kk
set_option maxRecDepth 20000 in
theorem w_area2 (l : Launch) (h : hp_H) (a0 : Int32) (a1 : Int32) (o : Nat → Int64) {B m n : Nat} (h1 : h[1]? = some (ES B m n)) (Qc P : hp_R → hp_H → Prop) (hM : hp_M l Y_es_area2 [.ref 1, .int a0, .int a1] h false 1 6 Qc)
    (hr : ∀ r h', Qc r h' → (∃ v, r = .inl (some (.long v)) ∧ h'[89]? = some (LA 1 o) ∧ P (.inl (some (.int 0))) (h'.set 89 (LA 1 (vp_updL o 0 v)))) ∨ ∃ c, c < 1 ∧ r = .inr c ∧ P (.inl (some (.int (nI (c + 1))))) h') : hp_M l Y_la_area2 [.ref 1, .int a0, .int a1, .ref 89] h false 1 6 P := by
  refine hp_start (T := T_la_area2) (by decide) rfl (fun σ => Nat.le_of_ble_eq_true rfl) (fun G C => ?_)
  obtain ⟨B1, O, z3, hR, hl, hw, hQ, hrt, hlk, hnm, hex, hnt, hth⟩ := id C
  obtain ⟨x1, hxs, ex1⟩ := xt_1 hex
  have cov : ∀ x : ExceptionTableEntry, x.startPc = 0 → x.endPc = 9 → covers x 5 = true := fun x a b => by show (decide (x.startPc ≤ 5) && decide (5 < x.endPc)) = true; rw [a, b]; decide
  have s1 : x1.startPc = 0 := congrArg (fun q => q.1) ex1
  have d1 : x1.endPc = 9 := congrArg (fun q => q.2.1) ex1
  have p1 : x1.handlerPc = 12 := congrArg (fun q => q.2.2.1) ex1
  have t1 : x1.catchType = 13 := congrArg (fun q => q.2.2.2) ex1
  refine hp_run_sound hp_co V_la_area2 C (fun _ _ _ _ _ _ _ hq => hq) [5] 12 _ _ _ _ _ _ _ ?_
  refine hs_tryV V_la_area2 C (i := 41) (Y' := Y_es_area2) rfl rfl (as := [.int a0, .int a1]) (rest := [.int 0, .ref 89]) (a := 1) rfl h1 rfl hM (by decide) (by decide) (by decide) (by decide) (fun r h' hq => ?_) rfl
  rcases hr r h' hq with ⟨v, rfl, k89, hP⟩ | ⟨c, hc, rfl, hP⟩
  · refine hp_run_sound hp_co V_la_area2 C (fun _ _ _ _ _ _ _ hq => hq) [] 8 _ _ _ _ _ _ _ ?_
    refine Exists.intro 1 (Exists.intro o (And.intro k89 (And.intro (in_nI (show 0 < 1 by decide) (by decide)) ?_)))
    exact And.intro rfl (And.intro rfl hP)
  · have hc0 : c = 0 := by omega
    subst hc0
    have kk : hp_W G 14 [] [] h' (true && false) (0 + 1) (0 + 6) := by
      refine hp_run_sound hp_co V_la_area2 C (fun _ _ _ _ _ _ _ hq => hq) [] 4 _ _ _ _ _ _ _ ?_
      exact And.intro rfl (And.intro rfl hP)
    exact hp_catch_in B1 O hth (i := 4) [] x1 [] hxs (fun z hz => by cases hz) (cov x1 s1 d1) (by rw [t1]; decide) (by rw [t1]; exact lw_c0) lw_k0 p1 (by rw [z3]; decide) (Or.inl ⟨hq_dec V_la_area2 rfl rfl, rfl⟩) kk
set_option maxRecDepth 20000 in
theorem w_touching (l : Launch) (h : hp_H) (a0 : Int32) (a1 : Int32) (a2 : Int32) (o : Nat → Int64) {B m n : Nat} (h1 : h[1]? = some (ES B m n)) (Qc P : hp_R → hp_H → Prop) (hM : hp_M l Y_es_touching [.ref 1, .int a0, .int a1, .int a2] h false 1 6 Qc)
    (hr : ∀ r h', Qc r h' → (∃ v, r = .inl (some (.int v)) ∧ h'[89]? = some (LA 1 o) ∧ P (.inl (some (.int 0))) (h'.set 89 (LA 1 (vp_updL o 0 v.toInt64)))) ∨ ∃ c, c < 1 ∧ r = .inr c ∧ P (.inl (some (.int (nI (c + 1))))) h') : hp_M l Y_la_touching [.ref 1, .int a0, .int a1, .int a2, .ref 89] h false 1 6 P := by
  refine hp_start (T := T_la_touching) (by decide) rfl (fun σ => Nat.le_of_ble_eq_true rfl) (fun G C => ?_)
  obtain ⟨B1, O, z3, hR, hl, hw, hQ, hrt, hlk, hnm, hex, hnt, hth⟩ := id C
  obtain ⟨x1, hxs, ex1⟩ := xt_1 hex
  have cov : ∀ x : ExceptionTableEntry, x.startPc = 0 → x.endPc = 12 → covers x 7 = true := fun x a b => by show (decide (x.startPc ≤ 7) && decide (7 < x.endPc)) = true; rw [a, b]; decide
  have s1 : x1.startPc = 0 := congrArg (fun q => q.1) ex1
  have d1 : x1.endPc = 12 := congrArg (fun q => q.2.1) ex1
  have p1 : x1.handlerPc = 15 := congrArg (fun q => q.2.2.1) ex1
  have t1 : x1.catchType = 13 := congrArg (fun q => q.2.2.2) ex1
  refine hp_run_sound hp_co V_la_touching C (fun _ _ _ _ _ _ _ hq => hq) [7] 12 _ _ _ _ _ _ _ ?_
  refine hs_tryV V_la_touching C (i := 45) (Y' := Y_es_touching) rfl rfl (as := [.int a0, .int a1, .int a2]) (rest := [.int 0, .ref 89]) (a := 1) rfl h1 rfl hM (by decide) (by decide) (by decide) (by decide) (fun r h' hq => ?_) rfl
  rcases hr r h' hq with ⟨v, rfl, k89, hP⟩ | ⟨c, hc, rfl, hP⟩
  · refine hp_run_sound hp_co V_la_touching C (fun _ _ _ _ _ _ _ hq => hq) [] 8 _ _ _ _ _ _ _ ?_
    refine Exists.intro 1 (Exists.intro o (And.intro k89 (And.intro (in_nI (show 0 < 1 by decide) (by decide)) ?_)))
    exact And.intro rfl (And.intro rfl hP)
  · have hc0 : c = 0 := by omega
    subst hc0
    have kk : hp_W G 17 [] [] h' (true && false) (0 + 1) (0 + 6) := by
      refine hp_run_sound hp_co V_la_touching C (fun _ _ _ _ _ _ _ hq => hq) [] 4 _ _ _ _ _ _ _ ?_
      exact And.intro rfl (And.intro rfl hP)
    exact hp_catch_in B1 O hth (i := 5) [] x1 [] hxs (fun z hz => by cases hz) (cov x1 s1 d1) (by rw [t1]; decide) (by rw [t1]; exact lw_c0) lw_k0 p1 (by rw [z3]; decide) (Or.inl ⟨hq_dec V_la_touching rfl rfl, rfl⟩) kk
set_option maxRecDepth 20000 in
theorem w_nets (l : Launch) (h : hp_H) (a0 : Int32) (o : Nat → Int64) {B m n : Nat} (h1 : h[1]? = some (ES B m n)) (Qc P : hp_R → hp_H → Prop) (hM : hp_M l Y_es_nets [.ref 1, .int a0] h false 1 6 Qc)
    (hr : ∀ r h', Qc r h' → (∃ v, r = .inl (some (.int v)) ∧ h'[89]? = some (LA 1 o) ∧ P (.inl (some (.int 0))) (h'.set 89 (LA 1 (vp_updL o 0 v.toInt64)))) ∨ ∃ c, c < 1 ∧ r = .inr c ∧ P (.inl (some (.int (nI (c + 1))))) h') : hp_M l Y_la_nets [.ref 1, .int a0, .ref 89] h false 1 6 P := by
  refine hp_start (T := T_la_nets) (by decide) rfl (fun σ => Nat.le_of_ble_eq_true rfl) (fun G C => ?_)
  obtain ⟨B1, O, z3, hR, hl, hw, hQ, hrt, hlk, hnm, hex, hnt, hth⟩ := id C
  obtain ⟨x1, hxs, ex1⟩ := xt_1 hex
  have cov : ∀ x : ExceptionTableEntry, x.startPc = 0 → x.endPc = 9 → covers x 4 = true := fun x a b => by show (decide (x.startPc ≤ 4) && decide (4 < x.endPc)) = true; rw [a, b]; decide
  have s1 : x1.startPc = 0 := congrArg (fun q => q.1) ex1
  have d1 : x1.endPc = 9 := congrArg (fun q => q.2.1) ex1
  have p1 : x1.handlerPc = 12 := congrArg (fun q => q.2.2.1) ex1
  have t1 : x1.catchType = 13 := congrArg (fun q => q.2.2.2) ex1
  refine hp_run_sound hp_co V_la_nets C (fun _ _ _ _ _ _ _ hq => hq) [4] 12 _ _ _ _ _ _ _ ?_
  refine hs_tryV V_la_nets C (i := 48) (Y' := Y_es_nets) rfl rfl (as := [.int a0]) (rest := [.int 0, .ref 89]) (a := 1) rfl h1 rfl hM (by decide) (by decide) (by decide) (by decide) (fun r h' hq => ?_) rfl
  rcases hr r h' hq with ⟨v, rfl, k89, hP⟩ | ⟨c, hc, rfl, hP⟩
  · refine hp_run_sound hp_co V_la_nets C (fun _ _ _ _ _ _ _ hq => hq) [] 8 _ _ _ _ _ _ _ ?_
    refine Exists.intro 1 (Exists.intro o (And.intro k89 (And.intro (in_nI (show 0 < 1 by decide) (by decide)) ?_)))
    exact And.intro rfl (And.intro rfl hP)
  · have hc0 : c = 0 := by omega
    subst hc0
    have kk : hp_W G 13 [] [] h' (true && false) (0 + 1) (0 + 6) := by
      refine hp_run_sound hp_co V_la_nets C (fun _ _ _ _ _ _ _ hq => hq) [] 4 _ _ _ _ _ _ _ ?_
      exact And.intro rfl (And.intro rfl hP)
    exact hp_catch_in B1 O hth (i := 3) [] x1 [] hxs (fun z hz => by cases hz) (cov x1 s1 d1) (by rw [t1]; decide) (by rw [t1]; exact lw_c0) lw_k0 p1 (by rw [z3]; decide) (Or.inr ⟨3, hq_dec V_la_nets rfl rfl, rfl, rfl⟩) kk
set_option maxRecDepth 20000 in
theorem w_netOf (l : Launch) (h : hp_H) (a0 : Int32) (a1 : Int32) (o : Nat → Int64) {B m n : Nat} (h1 : h[1]? = some (ES B m n)) (Qc P : hp_R → hp_H → Prop) (hM : hp_M l Y_es_netOf [.ref 1, .int a0, .int a1] h false 1 6 Qc)
    (hr : ∀ r h', Qc r h' → (∃ v, r = .inl (some (.int v)) ∧ h'[89]? = some (LA 1 o) ∧ P (.inl (some (.int 0))) (h'.set 89 (LA 1 (vp_updL o 0 v.toInt64)))) ∨ ∃ c, c < 1 ∧ r = .inr c ∧ P (.inl (some (.int (nI (c + 1))))) h') : hp_M l Y_la_netOf [.ref 1, .int a0, .int a1, .ref 89] h false 1 6 P := by
  refine hp_start (T := T_la_netOf) (by decide) rfl (fun σ => Nat.le_of_ble_eq_true rfl) (fun G C => ?_)
  obtain ⟨B1, O, z3, hR, hl, hw, hQ, hrt, hlk, hnm, hex, hnt, hth⟩ := id C
  obtain ⟨x1, hxs, ex1⟩ := xt_1 hex
  have cov : ∀ x : ExceptionTableEntry, x.startPc = 0 → x.endPc = 10 → covers x 5 = true := fun x a b => by show (decide (x.startPc ≤ 5) && decide (5 < x.endPc)) = true; rw [a, b]; decide
  have s1 : x1.startPc = 0 := congrArg (fun q => q.1) ex1
  have d1 : x1.endPc = 10 := congrArg (fun q => q.2.1) ex1
  have p1 : x1.handlerPc = 13 := congrArg (fun q => q.2.2.1) ex1
  have t1 : x1.catchType = 13 := congrArg (fun q => q.2.2.2) ex1
  refine hp_run_sound hp_co V_la_netOf C (fun _ _ _ _ _ _ _ hq => hq) [5] 12 _ _ _ _ _ _ _ ?_
  refine hs_tryV V_la_netOf C (i := 51) (Y' := Y_es_netOf) rfl rfl (as := [.int a0, .int a1]) (rest := [.int 0, .ref 89]) (a := 1) rfl h1 rfl hM (by decide) (by decide) (by decide) (by decide) (fun r h' hq => ?_) rfl
  rcases hr r h' hq with ⟨v, rfl, k89, hP⟩ | ⟨c, hc, rfl, hP⟩
  · refine hp_run_sound hp_co V_la_netOf C (fun _ _ _ _ _ _ _ hq => hq) [] 8 _ _ _ _ _ _ _ ?_
    refine Exists.intro 1 (Exists.intro o (And.intro k89 (And.intro (in_nI (show 0 < 1 by decide) (by decide)) ?_)))
    exact And.intro rfl (And.intro rfl hP)
  · have hc0 : c = 0 := by omega
    subst hc0
    have kk : hp_W G 15 [] [] h' (true && false) (0 + 1) (0 + 6) := by
      refine hp_run_sound hp_co V_la_netOf C (fun _ _ _ _ _ _ _ hq => hq) [] 4 _ _ _ _ _ _ _ ?_
      exact And.intro rfl (And.intro rfl hP)
    exact hp_catch_in B1 O hth (i := 4) [] x1 [] hxs (fun z hz => by cases hz) (cov x1 s1 d1) (by rw [t1]; decide) (by rw [t1]; exact lw_c0) lw_k0 p1 (by rw [z3]; decide) (Or.inl ⟨hq_dec V_la_netOf rfl rfl, rfl⟩) kk
set_option maxRecDepth 20000 in
theorem w_strips (l : Launch) (h : hp_H) (a0 : Int32) (o : Nat → Int64) {B m n : Nat} (h1 : h[1]? = some (ES B m n)) (Qc P : hp_R → hp_H → Prop) (hM : hp_M l Y_es_strips [.ref 1, .int a0] h false 1 6 Qc)
    (hr : ∀ r h', Qc r h' → (∃ v, r = .inl (some (.int v)) ∧ h'[89]? = some (LA 1 o) ∧ P (.inl (some (.int 0))) (h'.set 89 (LA 1 (vp_updL o 0 v.toInt64)))) ∨ ∃ c, c < 1 ∧ r = .inr c ∧ P (.inl (some (.int (nI (c + 1))))) h') : hp_M l Y_la_strips [.ref 1, .int a0, .ref 89] h false 1 6 P := by
  refine hp_start (T := T_la_strips) (by decide) rfl (fun σ => Nat.le_of_ble_eq_true rfl) (fun G C => ?_)
  obtain ⟨B1, O, z3, hR, hl, hw, hQ, hrt, hlk, hnm, hex, hnt, hth⟩ := id C
  obtain ⟨x1, hxs, ex1⟩ := xt_1 hex
  have cov : ∀ x : ExceptionTableEntry, x.startPc = 0 → x.endPc = 9 → covers x 4 = true := fun x a b => by show (decide (x.startPc ≤ 4) && decide (4 < x.endPc)) = true; rw [a, b]; decide
  have s1 : x1.startPc = 0 := congrArg (fun q => q.1) ex1
  have d1 : x1.endPc = 9 := congrArg (fun q => q.2.1) ex1
  have p1 : x1.handlerPc = 12 := congrArg (fun q => q.2.2.1) ex1
  have t1 : x1.catchType = 13 := congrArg (fun q => q.2.2.2) ex1
  refine hp_run_sound hp_co V_la_strips C (fun _ _ _ _ _ _ _ hq => hq) [4] 12 _ _ _ _ _ _ _ ?_
  refine hs_tryV V_la_strips C (i := 55) (Y' := Y_es_strips) rfl rfl (as := [.int a0]) (rest := [.int 0, .ref 89]) (a := 1) rfl h1 rfl hM (by decide) (by decide) (by decide) (by decide) (fun r h' hq => ?_) rfl
  rcases hr r h' hq with ⟨v, rfl, k89, hP⟩ | ⟨c, hc, rfl, hP⟩
  · refine hp_run_sound hp_co V_la_strips C (fun _ _ _ _ _ _ _ hq => hq) [] 8 _ _ _ _ _ _ _ ?_
    refine Exists.intro 1 (Exists.intro o (And.intro k89 (And.intro (in_nI (show 0 < 1 by decide) (by decide)) ?_)))
    exact And.intro rfl (And.intro rfl hP)
  · have hc0 : c = 0 := by omega
    subst hc0
    have kk : hp_W G 13 [] [] h' (true && false) (0 + 1) (0 + 6) := by
      refine hp_run_sound hp_co V_la_strips C (fun _ _ _ _ _ _ _ hq => hq) [] 4 _ _ _ _ _ _ _ ?_
      exact And.intro rfl (And.intro rfl hP)
    exact hp_catch_in B1 O hth (i := 3) [] x1 [] hxs (fun z hz => by cases hz) (cov x1 s1 d1) (by rw [t1]; decide) (by rw [t1]; exact lw_c0) lw_k0 p1 (by rw [z3]; decide) (Or.inr ⟨3, hq_dec V_la_strips rfl rfl, rfl, rfl⟩) kk
set_option maxRecDepth 20000 in
theorem w_edge (l : Launch) (h : hp_H) (a0 : Int32) (a1 : Int32) (a2 : Int32) (o : Nat → Int64) {B m n : Nat} (h1 : h[1]? = some (ES B m n)) (Qc P : hp_R → hp_H → Prop) (hM : hp_M l Y_es_edge [.ref 1, .int a0, .int a1, .int a2] h false 1 6 Qc)
    (hr : ∀ r h', Qc r h' → (∃ v, r = .inl (some (.int v)) ∧ h'[89]? = some (LA 1 o) ∧ P (.inl (some (.int 0))) (h'.set 89 (LA 1 (vp_updL o 0 v.toInt64)))) ∨ ∃ c, c < 1 ∧ r = .inr c ∧ P (.inl (some (.int (nI (c + 1))))) h') : hp_M l Y_la_edge [.ref 1, .int a0, .int a1, .int a2, .ref 89] h false 1 6 P := by
  refine hp_start (T := T_la_edge) (by decide) rfl (fun σ => Nat.le_of_ble_eq_true rfl) (fun G C => ?_)
  obtain ⟨B1, O, z3, hR, hl, hw, hQ, hrt, hlk, hnm, hex, hnt, hth⟩ := id C
  obtain ⟨x1, hxs, ex1⟩ := xt_1 hex
  have cov : ∀ x : ExceptionTableEntry, x.startPc = 0 → x.endPc = 12 → covers x 7 = true := fun x a b => by show (decide (x.startPc ≤ 7) && decide (7 < x.endPc)) = true; rw [a, b]; decide
  have s1 : x1.startPc = 0 := congrArg (fun q => q.1) ex1
  have d1 : x1.endPc = 12 := congrArg (fun q => q.2.1) ex1
  have p1 : x1.handlerPc = 15 := congrArg (fun q => q.2.2.1) ex1
  have t1 : x1.catchType = 13 := congrArg (fun q => q.2.2.2) ex1
  refine hp_run_sound hp_co V_la_edge C (fun _ _ _ _ _ _ _ hq => hq) [7] 12 _ _ _ _ _ _ _ ?_
  refine hs_tryV V_la_edge C (i := 58) (Y' := Y_es_edge) rfl rfl (as := [.int a0, .int a1, .int a2]) (rest := [.int 0, .ref 89]) (a := 1) rfl h1 rfl hM (by decide) (by decide) (by decide) (by decide) (fun r h' hq => ?_) rfl
  rcases hr r h' hq with ⟨v, rfl, k89, hP⟩ | ⟨c, hc, rfl, hP⟩
  · refine hp_run_sound hp_co V_la_edge C (fun _ _ _ _ _ _ _ hq => hq) [] 8 _ _ _ _ _ _ _ ?_
    refine Exists.intro 1 (Exists.intro o (And.intro k89 (And.intro (in_nI (show 0 < 1 by decide) (by decide)) ?_)))
    exact And.intro rfl (And.intro rfl hP)
  · have hc0 : c = 0 := by omega
    subst hc0
    have kk : hp_W G 17 [] [] h' (true && false) (0 + 1) (0 + 6) := by
      refine hp_run_sound hp_co V_la_edge C (fun _ _ _ _ _ _ _ hq => hq) [] 4 _ _ _ _ _ _ _ ?_
      exact And.intro rfl (And.intro rfl hP)
    exact hp_catch_in B1 O hth (i := 5) [] x1 [] hxs (fun z hz => by cases hz) (cov x1 s1 d1) (by rw [t1]; decide) (by rw [t1]; exact lw_c0) lw_k0 p1 (by rw [z3]; decide) (Or.inl ⟨hq_dec V_la_edge rfl rfl, rfl⟩) kk
set_option maxRecDepth 20000 in
theorem w_trapezoid (l : Launch) (h : hp_H) (a0 : Int32) (a1 : Int32) (a2 : Int32) (o : Nat → Int64) {B m n : Nat} (h1 : h[1]? = some (ES B m n)) (Qc P : hp_R → hp_H → Prop) (hM : hp_M l Y_es_trapezoid [.ref 1, .int a0, .int a1, .int a2] h false 1 6 Qc)
    (hr : ∀ r h', Qc r h' → (∃ v, r = .inl (some (.int v)) ∧ h'[89]? = some (LA 1 o) ∧ P (.inl (some (.int 0))) (h'.set 89 (LA 1 (vp_updL o 0 v.toInt64)))) ∨ ∃ c, c < 1 ∧ r = .inr c ∧ P (.inl (some (.int (nI (c + 1))))) h') : hp_M l Y_la_trapezoid [.ref 1, .int a0, .int a1, .int a2, .ref 89] h false 1 6 P := by
  refine hp_start (T := T_la_trapezoid) (by decide) rfl (fun σ => Nat.le_of_ble_eq_true rfl) (fun G C => ?_)
  obtain ⟨B1, O, z3, hR, hl, hw, hQ, hrt, hlk, hnm, hex, hnt, hth⟩ := id C
  obtain ⟨x1, hxs, ex1⟩ := xt_1 hex
  have cov : ∀ x : ExceptionTableEntry, x.startPc = 0 → x.endPc = 12 → covers x 7 = true := fun x a b => by show (decide (x.startPc ≤ 7) && decide (7 < x.endPc)) = true; rw [a, b]; decide
  have s1 : x1.startPc = 0 := congrArg (fun q => q.1) ex1
  have d1 : x1.endPc = 12 := congrArg (fun q => q.2.1) ex1
  have p1 : x1.handlerPc = 15 := congrArg (fun q => q.2.2.1) ex1
  have t1 : x1.catchType = 13 := congrArg (fun q => q.2.2.2) ex1
  refine hp_run_sound hp_co V_la_trapezoid C (fun _ _ _ _ _ _ _ hq => hq) [7] 12 _ _ _ _ _ _ _ ?_
  refine hs_tryV V_la_trapezoid C (i := 61) (Y' := Y_es_trapezoid) rfl rfl (as := [.int a0, .int a1, .int a2]) (rest := [.int 0, .ref 89]) (a := 1) rfl h1 rfl hM (by decide) (by decide) (by decide) (by decide) (fun r h' hq => ?_) rfl
  rcases hr r h' hq with ⟨v, rfl, k89, hP⟩ | ⟨c, hc, rfl, hP⟩
  · refine hp_run_sound hp_co V_la_trapezoid C (fun _ _ _ _ _ _ _ hq => hq) [] 8 _ _ _ _ _ _ _ ?_
    refine Exists.intro 1 (Exists.intro o (And.intro k89 (And.intro (in_nI (show 0 < 1 by decide) (by decide)) ?_)))
    exact And.intro rfl (And.intro rfl hP)
  · have hc0 : c = 0 := by omega
    subst hc0
    have kk : hp_W G 17 [] [] h' (true && false) (0 + 1) (0 + 6) := by
      refine hp_run_sound hp_co V_la_trapezoid C (fun _ _ _ _ _ _ _ hq => hq) [] 4 _ _ _ _ _ _ _ ?_
      exact And.intro rfl (And.intro rfl hP)
    exact hp_catch_in B1 O hth (i := 5) [] x1 [] hxs (fun z hz => by cases hz) (cov x1 s1 d1) (by rw [t1]; decide) (by rw [t1]; exact lw_c0) lw_k0 p1 (by rw [z3]; decide) (Or.inl ⟨hq_dec V_la_trapezoid rfl rfl, rfl⟩) kk
