/-! the constructors: cells in their places -/
theorem wo_1 : Jvm.Cond.arrayOver (.array .long) ∈ hp_Ts := by decide +kernel
theorem wo_2 : Jvm.Cond.arrayOver (.array .int) ∈ hp_Ts := by decide +kernel
theorem wa_l : Jvm.Cond.arrayClass .long ∈ hp_Ts := by decide +kernel
theorem wa_i : Jvm.Cond.arrayClass .int ∈ hp_Ts := by decide +kernel
theorem wa_z : Jvm.Cond.arrayClass .boolean ∈ hp_Ts := by decide +kernel
theorem wm_es : Jvm.Cond.classLink "EdgeSweeps" 16 ("[" ++ (FieldType.array .long).toString) ∈ hp_Ts := by decide +kernel
theorem wm_po : Jvm.Cond.classLink "EdgeSweeps$Polygons" 22 ("[" ++ (FieldType.array .int).toString) ∈ hp_Ts := by decide +kernel
theorem ak_l : hp_aok .long := ⟨Or.inl rfl, wa_l⟩
theorem ak_i : hp_aok .int := ⟨Or.inr (Or.inl rfl), wa_i⟩
theorem ak_z : hp_aok .boolean := ⟨Or.inr (Or.inr (Or.inl rfl)), wa_z⟩
def z0 (_ : Nat) : Nat := 0
abbrev NA0 (n : Nat) : hp_C := .inl (.int, n, hp_zero .int)
abbrev LA0 (n : Nat) : hp_C := .inl (.long, n, hp_zero .long)
abbrev BA0 (n : Nat) : hp_C := .inl (.boolean, n, hp_zero .boolean)
/-- the cells of a new Polygons from place 2 on -/
def poN : List hp_C := [PO 0, NA0 16, NA0 16] ++ mnC 5 .int 16 16 ++ mnC 22 .int 16 16 ++ [LA0 65]
def paN : List hp_C := [PA 0 0, LA0 2048, NA0 2048, NA0 2048, NA0 2048, BA0 2048, NA0 65]
set_option maxRecDepth 40000 in
theorem c_po_init (l : Launch) (c0 c1 : hp_C) : hp_M l Y_po_init [.ref 2] [c0, c1, .inr (1, hp_new 1)] false 37 641 (hq_P (.inl none) ([c0, c1] ++ poN)) := by
  refine hp_start (T := T_po_init) (by decide) rfl (fun σ => Nat.le_of_ble_eq_true rfl) (fun G C => ?_)
  obtain ⟨B, O, e3, e4, e5, e6, e7, -⟩ := id C
  have t46 : hp_W G 46 [(0, .ref 2)] [.ref 22, .ref 2] ([c0, c1, .inr (1, [.int 0, .ref 3, .ref 4, .ref 5, .null, .null]), NA0 16, NA0 16] ++ mnC 5 .int 16 16 ++ mnC 22 .int 16 16) false 36 576 := by
    refine hp_run_sound hp_co V_po_init C (fun _ _ _ _ _ _ _ hq => hq) [] 12 _ _ _ _ _ _ _ ?_
    refine And.intro (Or.inr ⟨rfl, rfl, rfl⟩) (Exists.intro _ (And.intro rfl (And.intro (Nat.le_of_ble_eq_true rfl) (And.intro rfl (And.intro rfl ?_)))))
    refine Exists.intro 65 (And.intro rfl (And.intro (by decide) (And.intro (by decide) (And.intro (by decide) (And.intro (by decide) (And.intro ak_l ?_))))))
    refine And.intro (Or.inr ⟨rfl, rfl, rfl⟩) (Exists.intro _ (And.intro rfl (And.intro (Nat.le_of_ble_eq_true rfl) (And.intro rfl (And.intro rfl ?_)))))
    exact And.intro rfl (And.intro rfl (And.intro rfl rfl))
  have t42 : hp_W G 42 [(0, .ref 2)] [.int (nI 16), .int (nI 16), .ref 2] ([c0, c1, .inr (1, [.int 0, .ref 3, .ref 4, .ref 5, .null, .null]), NA0 16, NA0 16] ++ mnC 5 .int 16 16) false 19 304 := by
    refine hs_mna (N := 16) (M := 16) B O (Or.inr rfl) wm_po wo_2 wa_i (hq_dec V_po_init rfl rfl) (by decide) (by decide) rfl (by rw [e4]; decide) (by rw [e4]; decide) ?_
    exact t46
  have t34 : hp_W G 34 [(0, .ref 2)] [.ref 5, .ref 2] ([c0, c1, .inr (1, [.int 0, .ref 3, .ref 4, .null, .null, .null]), NA0 16, NA0 16] ++ mnC 5 .int 16 16) false 19 304 := by
    refine hp_run_sound hp_co V_po_init C (fun _ _ _ _ _ _ _ hq => hq) [42] 6 _ _ _ _ _ _ _ ?_
    refine And.intro (Or.inr ⟨rfl, rfl, rfl⟩) (Exists.intro _ (And.intro rfl (And.intro (Nat.le_of_ble_eq_true rfl) (And.intro rfl (And.intro rfl ?_)))))
    exact t42
  have t30 : hp_W G 30 [(0, .ref 2)] [.int (nI 16), .int (nI 16), .ref 2] [c0, c1, .inr (1, [.int 0, .ref 3, .ref 4, .null, .null, .null]), NA0 16, NA0 16] false 2 32 := by
    refine hs_mna (N := 16) (M := 16) B O (Or.inr rfl) wm_po wo_2 wa_i (hq_dec V_po_init rfl rfl) (by decide) (by decide) rfl (by rw [e4]; decide) (by rw [e4]; decide) ?_
    exact t34
  refine hp_run_sound hp_co V_po_init C (fun _ _ _ _ _ _ _ hq => hq) [30] 20 _ _ _ _ _ _ _ ?_
  refine And.intro (Or.inl rfl) (Exists.intro _ (And.intro rfl (And.intro (Nat.le_of_ble_eq_true rfl) (And.intro rfl (And.intro rfl ?_)))))
  refine Exists.intro 16 (And.intro rfl (And.intro (by decide) (And.intro (by decide) (And.intro (by decide) (And.intro (by decide) (And.intro ak_i ?_))))))
  refine And.intro (Or.inr ⟨rfl, rfl, rfl⟩) (Exists.intro _ (And.intro rfl (And.intro (Nat.le_of_ble_eq_true rfl) (And.intro rfl (And.intro rfl ?_)))))
  refine Exists.intro 16 (And.intro rfl (And.intro (by decide) (And.intro (by decide) (And.intro (by decide) (And.intro (by decide) (And.intro ak_i ?_))))))
  refine And.intro (Or.inr ⟨rfl, rfl, rfl⟩) (Exists.intro _ (And.intro rfl (And.intro (Nat.le_of_ble_eq_true rfl) (And.intro rfl (And.intro rfl ?_)))))
  exact t30
/-- the cells of the class's object up to its parts -/
def esP (c0 c1 : hp_C) : hp_H := [c0, c1] ++ poN ++ mnC 40 .long 24 64
set_option maxRecDepth 40000 in
theorem c_pa_init (l : Launch) (c0 c1 : hp_C) : hp_M l Y_pa_init [.ref 65] (esP c0 c1 ++ [.inr (2, hp_new 2)]) false 6 10305 (hq_P (.inl none) (esP c0 c1 ++ paN)) := by
  refine hp_start (T := T_pa_init) (by decide) rfl (fun σ => Nat.le_of_ble_eq_true rfl) (fun G C => ?_)
  have t62 : hp_W G 62 [(0, .ref 65)] [] (esP c0 c1 ++ [.inr (2, [.ref 66, .ref 67, .ref 68, .ref 69, .ref 70, .ref 71, .int 0, .int 0]), LA0 2048, NA0 2048, NA0 2048, NA0 2048, BA0 2048, NA0 65]) false 6 10305 := by
    refine hp_run_sound hp_co V_pa_init C (fun _ _ _ _ _ _ _ hq => hq) [] 8 _ _ _ _ _ _ _ ?_
    refine And.intro (Or.inl rfl) (Exists.intro _ (And.intro rfl (And.intro (Nat.le_of_ble_eq_true rfl) (And.intro rfl (And.intro rfl ?_)))))
    exact And.intro rfl (And.intro rfl (And.intro rfl rfl))
  have t57 : hp_W G 57 [(0, .ref 65)] [] (esP c0 c1 ++ [.inr (2, [.ref 66, .ref 67, .ref 68, .ref 69, .ref 70, .ref 71, .int 0, .int 0]), LA0 2048, NA0 2048, NA0 2048, NA0 2048, BA0 2048, NA0 65]) false 6 10305 := by
    refine hp_run_sound hp_co V_pa_init C (fun _ _ _ _ _ _ _ hq => hq) [62] 8 _ _ _ _ _ _ _ ?_
    refine And.intro (Or.inl rfl) (Exists.intro _ (And.intro rfl (And.intro (Nat.le_of_ble_eq_true rfl) (And.intro rfl (And.intro rfl ?_)))))
    exact t62
  have t49 : hp_W G 49 [(0, .ref 65)] [] (esP c0 c1 ++ [.inr (2, [.ref 66, .ref 67, .ref 68, .ref 69, .ref 70, .null, .int 0, .int 0]), LA0 2048, NA0 2048, NA0 2048, NA0 2048, BA0 2048]) false 5 10240 := by
    refine hp_run_sound hp_co V_pa_init C (fun _ _ _ _ _ _ _ hq => hq) [57] 10 _ _ _ _ _ _ _ ?_
    refine Exists.intro 65 (And.intro rfl (And.intro (by decide) (And.intro (by decide) (And.intro (by decide) (And.intro (by decide) (And.intro ak_i ?_))))))
    refine And.intro (Or.inr ⟨rfl, rfl, rfl⟩) (Exists.intro _ (And.intro rfl (And.intro (Nat.le_of_ble_eq_true rfl) (And.intro rfl (And.intro rfl ?_)))))
    exact t57
  have t40 : hp_W G 40 [(0, .ref 65)] [] (esP c0 c1 ++ [.inr (2, [.ref 66, .ref 67, .ref 68, .ref 69, .null, .null, .int 0, .int 0]), LA0 2048, NA0 2048, NA0 2048, NA0 2048]) false 4 8192 := by
    refine hp_run_sound hp_co V_pa_init C (fun _ _ _ _ _ _ _ hq => hq) [49] 10 _ _ _ _ _ _ _ ?_
    refine Exists.intro 2048 (And.intro rfl (And.intro (by decide) (And.intro (by decide) (And.intro (by decide) (And.intro (by decide) (And.intro ak_z ?_))))))
    refine And.intro (Or.inr ⟨rfl, rfl, rfl⟩) (Exists.intro _ (And.intro rfl (And.intro (Nat.le_of_ble_eq_true rfl) (And.intro rfl (And.intro rfl ?_)))))
    exact t49
  have t31 : hp_W G 31 [(0, .ref 65)] [] (esP c0 c1 ++ [.inr (2, [.ref 66, .ref 67, .ref 68, .null, .null, .null, .int 0, .int 0]), LA0 2048, NA0 2048, NA0 2048]) false 3 6144 := by
    refine hp_run_sound hp_co V_pa_init C (fun _ _ _ _ _ _ _ hq => hq) [40] 10 _ _ _ _ _ _ _ ?_
    refine Exists.intro 2048 (And.intro rfl (And.intro (by decide) (And.intro (by decide) (And.intro (by decide) (And.intro (by decide) (And.intro ak_i ?_))))))
    refine And.intro (Or.inr ⟨rfl, rfl, rfl⟩) (Exists.intro _ (And.intro rfl (And.intro (Nat.le_of_ble_eq_true rfl) (And.intro rfl (And.intro rfl ?_)))))
    exact t40
  have t22 : hp_W G 22 [(0, .ref 65)] [] (esP c0 c1 ++ [.inr (2, [.ref 66, .ref 67, .null, .null, .null, .null, .int 0, .int 0]), LA0 2048, NA0 2048]) false 2 4096 := by
    refine hp_run_sound hp_co V_pa_init C (fun _ _ _ _ _ _ _ hq => hq) [31] 10 _ _ _ _ _ _ _ ?_
    refine Exists.intro 2048 (And.intro rfl (And.intro (by decide) (And.intro (by decide) (And.intro (by decide) (And.intro (by decide) (And.intro ak_i ?_))))))
    refine And.intro (Or.inr ⟨rfl, rfl, rfl⟩) (Exists.intro _ (And.intro rfl (And.intro (Nat.le_of_ble_eq_true rfl) (And.intro rfl (And.intro rfl ?_)))))
    exact t31
  have t13 : hp_W G 13 [(0, .ref 65)] [] (esP c0 c1 ++ [.inr (2, [.ref 66, .null, .null, .null, .null, .null, .int 0, .int 0]), LA0 2048]) false 1 2048 := by
    refine hp_run_sound hp_co V_pa_init C (fun _ _ _ _ _ _ _ hq => hq) [22] 10 _ _ _ _ _ _ _ ?_
    refine Exists.intro 2048 (And.intro rfl (And.intro (by decide) (And.intro (by decide) (And.intro (by decide) (And.intro (by decide) (And.intro ak_i ?_))))))
    refine And.intro (Or.inr ⟨rfl, rfl, rfl⟩) (Exists.intro _ (And.intro rfl (And.intro (Nat.le_of_ble_eq_true rfl) (And.intro rfl (And.intro rfl ?_)))))
    exact t22
  refine hp_run_sound hp_co V_pa_init C (fun _ _ _ _ _ _ _ hq => hq) [13] 10 _ _ _ _ _ _ _ ?_
  refine Exists.intro 2048 (And.intro rfl (And.intro (by decide) (And.intro (by decide) (And.intro (by decide) (And.intro (by decide) (And.intro ak_l ?_))))))
  refine And.intro (Or.inr ⟨rfl, rfl, rfl⟩) (Exists.intro _ (And.intro rfl (And.intro (Nat.le_of_ble_eq_true rfl) (And.intro rfl (And.intro rfl ?_)))))
  exact t13
/-- base layers of an object asked for x -/
def bas (x : Int32) : Nat := if x < 1 then 1 else if 65536 < x then 65536 else x.toNatClampNeg
theorem bas_ok (x : Int32) : 1 ≤ bas x ∧ bas x ≤ 65536 ∧ nI (bas x) = if x < 1 then 1 else if 65536 < x then 65536 else x := by
  unfold bas
  by_cases h1 : x < 1
  · rw [if_pos h1, if_pos h1]
    exact ⟨by decide, by decide, rfl⟩
  · rw [if_neg h1, if_neg h1]
    by_cases h2 : 65536 < x
    · rw [if_pos h2, if_pos h2]
      exact ⟨by decide, by decide, rfl⟩
    · rw [if_neg h2, if_neg h2]
      have h3 : ¬ x < 0 := fun c => h1 (Int32.lt_iff_toInt_lt.mpr (by have := Int32.lt_iff_toInt_lt.mp c; have e0 : (0 : Int32).toInt = 0 := rfl; have e1 : (1 : Int32).toInt = 1 := rfl; omega))
      obtain ⟨j, hj, rfl⟩ := nI_of h3
      rw [nI_clamp hj]
      have a1 := Int32.not_lt.mp h1
      have a2 := Int32.not_lt.mp h2
      have b1 := Int32.le_iff_toInt_le.mp a1
      have b2 := Int32.le_iff_toInt_le.mp a2
      rw [nI_toInt hj] at b1 b2
      have e1 : (1 : Int32).toInt = 1 := rfl
      have e2 : (65536 : Int32).toInt = 65536 := rfl
      exact ⟨by omega, by omega, rfl⟩
def esN (c0 : hp_C) (B : Nat) : hp_H := esP c0 (ES B 0 1) ++ paN ++ [LA0 64, LA0 64, LA0 64]
set_option maxRecDepth 40000 in
theorem c_es_init (l : Launch) (c0 : hp_C) (x : Int32) : hp_M l Y_es_init [.ref 1, .int x] [c0, .inr (0, hp_new 0)] false 73 12712 (hq_P (.inl none) (esN c0 (bas x))) := by
  refine hp_start (T := T_es_init) (by decide) rfl (fun σ => Nat.le_of_ble_eq_true rfl) (fun G C => ?_)
  obtain ⟨B, O, e3, e4, e5, e6, e7, -⟩ := id C
  have t72 : hp_W G 72 [(0, .ref 1), (1, .int x)] [] (esP c0 (.inr (0, [.int 0, .ref 2, .ref 40, .int 0, .int 1, .ref 65, .ref 72, .ref 73, .ref 74])) ++ paN ++ [LA0 64, LA0 64, LA0 64]) false 73 12712 := by
    have hb := (bas_ok x).2.2
    refine hp_run_sound hp_co V_es_init C (fun _ _ _ _ _ _ _ hq => hq) [83] 12 _ _ _ _ _ _ _ ?_
    refine ic_P (M_swap (c_jm_max l _ x 1)) (Nat.le_refl _) (Nat.le_refl _) ?_
    refine ic_P (M_swap (c_jm_min l _ (if 1 ≤ x then x else 1) 65536)) (Nat.le_refl _) (Nat.le_refl _) ?_
    have ev : (if (if 1 ≤ x then x else 1) ≤ 65536 then (if 1 ≤ x then x else 1) else 65536) = nI (bas x) := by
      rw [hb]
      by_cases h1 : x < 1
      · rw [if_pos h1, if_neg (Int32.not_le.mpr h1)]
        rfl
      · rw [if_neg h1, if_pos (Int32.not_lt.mp h1)]
        by_cases h2 : 65536 < x
        · rw [if_pos h2, if_neg (Int32.not_le.mpr h2)]
        · rw [if_neg h2, if_pos (Int32.not_lt.mp h2)]
    have t83 : hp_W G 83 [(0, .ref 1), (1, .int x)] [.int (nI (bas x)), .ref 1] (esP c0 (.inr (0, [.int 0, .ref 2, .ref 40, .int 0, .int 1, .ref 65, .ref 72, .ref 73, .ref 74])) ++ paN ++ [LA0 64, LA0 64, LA0 64]) false 73 12712 := by
      refine hp_run_sound hp_co V_es_init C (fun _ _ _ _ _ _ _ hq => hq) [] 4 _ _ _ _ _ _ _ ?_
      refine And.intro (Or.inr ⟨rfl, rfl, rfl⟩) (Exists.intro _ (And.intro rfl (And.intro (Nat.le_of_ble_eq_true rfl) (And.intro rfl (And.intro rfl ?_)))))
      exact And.intro rfl (And.intro rfl (And.intro rfl rfl))
    rw [← ev] at t83
    exact t83
  have t48 : hp_W G 48 [(0, .ref 1), (1, .int x)] [] (esP c0 (.inr (0, [.int 0, .ref 2, .ref 40, .int 0, .int 1, .ref 65, .null, .null, .null])) ++ paN) false 70 12520 := by
    refine hp_run_sound hp_co V_es_init C (fun _ _ _ _ _ _ _ hq => hq) [72] 20 _ _ _ _ _ _ _ ?_
    refine Exists.intro 64 (And.intro rfl (And.intro (by decide) (And.intro (by decide) (And.intro (by decide) (And.intro (by decide) (And.intro ak_l ?_))))))
    refine And.intro (Or.inr ⟨rfl, rfl, rfl⟩) (Exists.intro _ (And.intro rfl (And.intro (Nat.le_of_ble_eq_true rfl) (And.intro rfl (And.intro rfl ?_)))))
    refine Exists.intro 64 (And.intro rfl (And.intro (by decide) (And.intro (by decide) (And.intro (by decide) (And.intro (by decide) (And.intro ak_l ?_))))))
    refine And.intro (Or.inr ⟨rfl, rfl, rfl⟩) (Exists.intro _ (And.intro rfl (And.intro (Nat.le_of_ble_eq_true rfl) (And.intro rfl (And.intro rfl ?_)))))
    refine Exists.intro 64 (And.intro rfl (And.intro (by decide) (And.intro (by decide) (And.intro (by decide) (And.intro (by decide) (And.intro ak_l ?_))))))
    refine And.intro (Or.inr ⟨rfl, rfl, rfl⟩) (Exists.intro _ (And.intro rfl (And.intro (Nat.le_of_ble_eq_true rfl) (And.intro rfl (And.intro rfl ?_)))))
    exact t72
  have t24 : hp_W G 24 [(0, .ref 1), (1, .int x)] [.ref 40, .ref 1] (esP c0 (.inr (0, [.int 0, .ref 2, .null, .int 0, .int 0, .null, .null, .null, .null]))) false 63 2207 := by
    refine hp_run_sound hp_co V_es_init C (fun _ _ _ _ _ _ _ hq => hq) [48] 20 _ _ _ _ _ _ _ ?_
    refine And.intro (Or.inr ⟨rfl, rfl, rfl⟩) (Exists.intro _ (And.intro rfl (And.intro (Nat.le_of_ble_eq_true rfl) (And.intro rfl (And.intro rfl ?_)))))
    refine And.intro (Or.inl rfl) (Exists.intro _ (And.intro rfl (And.intro (Nat.le_of_ble_eq_true rfl) (And.intro rfl (And.intro rfl ?_)))))
    refine And.intro (Or.inl rfl) (Exists.intro _ (And.intro rfl (And.intro (Nat.le_of_ble_eq_true rfl) (And.intro rfl (And.intro rfl ?_)))))
    refine And.intro (by decide) (And.intro (by decide) ?_)
    refine ic_P (c_pa_init l c0 (.inr (0, [.int 0, .ref 2, .ref 40, .int 0, .int 1, .null, .null, .null, .null]))) (by decide) (by decide) ?_
    refine And.intro (Or.inr ⟨rfl, rfl, rfl⟩) (Exists.intro _ (And.intro rfl (And.intro (Nat.le_of_ble_eq_true rfl) (And.intro rfl (And.intro rfl ?_)))))
    exact t48
  have t20 : hp_W G 20 [(0, .ref 1), (1, .int x)] [.int (nI 64), .int (nI 24), .ref 1] ([c0, .inr (0, [.int 0, .ref 2, .null, .int 0, .int 0, .null, .null, .null, .null])] ++ poN) false 38 647 := by
    refine hs_mna (N := 24) (M := 64) B O (Or.inl rfl) wm_es wo_1 wa_l (hq_dec V_es_init rfl rfl) (by decide) (by decide) rfl (by rw [e4]; decide) (by rw [e4]; decide) ?_
    exact t24
  refine hp_run_sound hp_co V_es_init C (fun _ _ _ _ _ _ _ hq => hq) [20] 14 _ _ _ _ _ _ _ ?_
  refine And.intro (by decide) (And.intro (by decide) ?_)
  refine ic_P (c_po_init l c0 (.inr (0, hp_new 0))) (by decide) (by decide) ?_
  refine And.intro (Or.inr ⟨rfl, rfl, rfl⟩) (Exists.intro _ (And.intro rfl (And.intro (Nat.le_of_ble_eq_true rfl) (And.intro rfl (And.intro rfl ?_)))))
  exact t20
/-- the state of new objects -/
def st0 (B : Nat) : St := St' B 0 1 0 z0 z0 (fun _ => z0) (fun _ => z0) (fun _ _ => 0)
theorem st0_ok (x : Int32) : stOK (st0 (bas x)) := ⟨(bas_ok x).1, (bas_ok x).2.1, Nat.zero_le _, Nat.le_refl 1, Nat.le_of_ble_eq_true rfl, Nat.zero_le _, fun _ _ => Nat.zero_le _, fun _ _ => Nat.zero_le _, fun _ _ _ => Nat.zero_le _, fun _ _ _ => Nat.zero_le _⟩
theorem lt16 {P : Nat → Prop} (h : P 0 ∧ P 1 ∧ P 2 ∧ P 3 ∧ P 4 ∧ P 5 ∧ P 6 ∧ P 7 ∧ P 8 ∧ P 9 ∧ P 10 ∧ P 11 ∧ P 12 ∧ P 13 ∧ P 14 ∧ P 15) : ∀ p, p < 16 → P p := by
  obtain ⟨a0, a1, a2, a3, a4, a5, a6, a7, a8, a9, a10, a11, a12, a13, a14, a15⟩ := h
  intro p hp
  match p, hp with
  | 0, _ => exact a0
  | 1, _ => exact a1
  | 2, _ => exact a2
  | 3, _ => exact a3
  | 4, _ => exact a4
  | 5, _ => exact a5
  | 6, _ => exact a6
  | 7, _ => exact a7
  | 8, _ => exact a8
  | 9, _ => exact a9
  | 10, _ => exact a10
  | 11, _ => exact a11
  | 12, _ => exact a12
  | 13, _ => exact a13
  | 14, _ => exact a14
  | 15, _ => exact a15
  | n + 16, h => omega
/-- the class's object is new, whatever lies behind it -/
theorem esS_new (c0 : hp_C) (B : Nat) (xs : hp_H) : esS (esN c0 B ++ xs) (st0 B) := by
  refine ⟨rfl, ⟨rfl, rfl, rfl, rfl, ?_, rfl, ?_⟩, rfl, ?_, ⟨⟨_, rfl⟩, ⟨_, _, rfl⟩, ⟨_, rfl⟩, ⟨z0, rfl⟩, ⟨z0, rfl⟩, ⟨z0, rfl⟩, ⟨fun _ => false, rfl⟩, ⟨z0, rfl⟩, ⟨_, rfl⟩, ⟨_, rfl⟩, ⟨_, rfl⟩⟩⟩
  · exact lt16 ⟨rfl, rfl, rfl, rfl, rfl, rfl, rfl, rfl, rfl, rfl, rfl, rfl, rfl, rfl, rfl, rfl⟩
  · exact lt16 ⟨rfl, rfl, rfl, rfl, rfl, rfl, rfl, rfl, rfl, rfl, rfl, rfl, rfl, rfl, rfl, rfl⟩
  · intro i hi
    rcases Nat.lt_or_ge i 16 with c | c
    · exact lt16 (P := fun i => (esN c0 B ++ xs)[41 + i]? = some (LA 64 (s_D (st0 B) i))) ⟨rfl, rfl, rfl, rfl, rfl, rfl, rfl, rfl, rfl, rfl, rfl, rfl, rfl, rfl, rfl, rfl⟩ i c
    · obtain ⟨j, rfl⟩ : ∃ j, i = 16 + j := ⟨i - 16, by omega⟩
      match j, hi with
      | 0, _ => rfl
      | 1, _ => rfl
      | 2, _ => rfl
      | 3, _ => rfl
      | 4, _ => rfl
      | 5, _ => rfl
      | 6, _ => rfl
      | 7, _ => rfl
      | n + 8, h => omega
