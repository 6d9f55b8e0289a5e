/-! in, area2 -/
theorem lay_ok {s : St} {L : Nat} (hO : stOK s) (hL : L < s_B s + s_m s) : ¬ nI L < 0 ∧ ¬ nI (s_B s + s_m s) ≤ nI L := by
  obtain ⟨o1, o2, o3, -⟩ := hO
  exact ⟨nI_pos (by omega), nI_ge hL (by omega)⟩
theorem isR_b {a b m : Nat} (ha : a = 72 ∨ a = 73) (hm : m ≤ 24) (hb : b = a ∨ (41 ≤ b ∧ b < 41 + m)) : isR b := by unfold isR; omega
theorem hxC_area {a : Nat} (ha : a = 72 ∨ a = 73) {h h' : hp_H} (hx1 : hx [39, a] h h') : hxC h h' := hxC_of hx1 (fun q hq => by simp at hq; omega)
set_option maxRecDepth 20000 in
theorem k_in_1 (l : Launch) (s : St) (x : Int32) (a b : Int64) (v : Value) (hx0 : x < 0 ∨ nI (s_B s + s_m s) ≤ x) : clsM l Y_es_in [.int x, .long a, .long b] s 1 v s := by
  intro h hS
  refine hp_start (T := T_es_in) (by decide) rfl (fun σ => Nat.le_of_ble_eq_true rfl) (fun G C => ?_)
  refine hp_run_sound hp_co V_es_in C (fun _ _ _ _ _ _ _ hq => hq) [] 12 _ _ _ _ _ _ _ ?_
  refine And.intro ⟨0, _, hS.1, rfl⟩ ?_
  refine ic_P (c_es_needLayer_no l h _ _ _ x hS.1 hx0) (Nat.le_refl _) (Nat.le_refl _) ?_
  exact ⟨rfl, hxC_rf h, hS⟩
set_option maxRecDepth 20000 in
theorem k_in_o (l : Launch) (s : St) (L : Nat) (a b : Int64) (hO : stOK s) (hL : L < s_B s + s_m s) (hab : a < 0 ∨ 64 ≤ a ∨ b < 0 ∨ 64 ≤ b) : clsM l Y_es_in [.int (nI L), .long a, .long b] s 0 (.int 0) s := by
  intro h hS
  refine hp_start (T := T_es_in) (by decide) rfl (fun σ => Nat.le_of_ble_eq_true rfl) (fun G C => ?_)
  have fin : ∀ lv, hp_W G 35 lv [] h true 0 0 := fun lv => by
    refine hp_run_sound hp_co V_es_in C (fun _ _ _ _ _ _ _ hq => hq) [] 4 _ _ _ _ _ _ _ ?_
    exact And.intro rfl (And.intro rfl (And.intro rfl ⟨hxC_rf h, hS⟩))
  refine hp_run_sound hp_co V_es_in C (fun _ _ _ _ _ _ _ hq => hq) [35] 30 _ _ _ _ _ _ _ ?_
  refine And.intro ⟨0, _, hS.1, rfl⟩ ?_
  refine ic_P (c_es_needLayer l h _ _ _ (nI L) hS.1 (lay_ok hO hL).1 (lay_ok hO hL).2) (Nat.le_add_left _ _) (Nat.le_add_left _ _) ?_
  refine And.intro (fun q1 => fin _) (fun q1 => And.intro (fun q2 => fin _) (fun q2 => And.intro (fun q3 => fin _) (fun q3 => And.intro (fun q4 => ?_) (fun q4 => fin _))))
  exfalso
  rcases hab with e | e | e | e
  · exact q1 ((lg_cmp_lt _ _).mpr e)
  · exact q2 ((lg_cmp_ge _ _).mpr e)
  · exact q3 ((lg_cmp_lt _ _).mpr e)
  · exact absurd ((lg_cmp_lt _ _).mp q4) (Int64.not_lt.mpr e)
theorem lN_64 {n : Nat} (h : n < 64) : lN n < 64 := Int64.lt_iff_toInt_lt.mpr (by
  rw [pk_lT (by omega)]
  have h0 : (64 : Int64).toInt = 64 := rfl
  omega)
set_option maxRecDepth 20000 in
theorem k_in_0 (l : Launch) (s : St) (L x y : Nat) (hO : stOK s) (hL : L < s_B s + s_m s) (hx2 : x < 64) (hy2 : y < 64) : clsM l Y_es_in [.int (nI L), .long (lN x), .long (lN y)] s 0 (.int (zI (inL s L x y))) s := by
  intro h hS
  refine hp_start (T := T_es_in) (by decide) rfl (fun σ => Nat.le_of_ble_eq_true rfl) (fun G C => ?_)
  refine hp_run_sound hp_co V_es_in C (fun _ _ _ _ _ _ _ hq => hq) [35] 50 _ _ _ _ _ _ _ ?_
  refine And.intro ⟨0, _, hS.1, rfl⟩ ?_
  refine ic_P (c_es_needLayer l h _ _ _ (nI L) hS.1 (lay_ok hO hL).1 (lay_ok hO hL).2) (Nat.le_add_left _ _) (Nat.le_add_left _ _) ?_
  refine And.intro (fun q => absurd ((lg_cmp_lt _ _).mp q) (lN_nneg (by omega))) (fun q => ?_)
  refine And.intro (fun q => absurd ((lg_cmp_ge _ _).mp q) (Int64.not_le.mpr (lN_64 hx2))) (fun q => ?_)
  refine And.intro (fun q => absurd ((lg_cmp_lt _ _).mp q) (lN_nneg (by omega))) (fun q => ?_)
  refine And.intro (fun q => ?_) (fun q => absurd ((lg_cmp_lt _ _).mpr (lN_64 hy2)) q)
  refine Exists.intro _ (And.intro hS.1 ?_)
  refine And.intro ⟨0, _, hS.1, rfl⟩ ?_
  refine ic_Q (c_es_areaOf l h s L 72 hO hS hL (Or.inl rfl)) (Nat.le_add_left _ _) (Nat.le_add_left _ _) (fun r h2 hq => ?_)
  obtain ⟨b, f, rfl, hb, hf, hsh, hx1, hS2⟩ := hq
  have hM := c_rowN l h2 b y (by omega) f hf
  rw [← lN_j (show y < 2 ^ 64 by omega)] at hM
  refine ic_P hM (Nat.le_add_left _ _) (Nat.le_add_left _ _) ?_
  have ef : rwN f y = f y := if_pos hy2
  have e0 : ((f y).toUInt64 >>> ((lN x).toInt32.toInt64.toUInt64 &&& Int64.toUInt64 63)).toInt64 &&& 1 = 0 ↔ bb (f y) x = false := by
    rw [lN_j (show x < 2 ^ 64 by omega)]
    exact bit_0 hx2 (f y)
  have hbit := hsh y x hy2 hx2
  rw [ef]
  refine And.intro (fun q => ?_) (fun q => ?_)
  · have hz := e0.mp ((lg_cmp_eq _ _).mp q)
    rw [← hbit, hz]
    exact And.intro rfl (And.intro rfl (And.intro rfl ⟨hxC_area (Or.inl rfl) hx1, hS2⟩))
  · have hz : bb (f y) x = true := by
      cases hq : bb (f y) x with
      | true => rfl
      | false => exact absurd ((lg_cmp_eq _ _).mpr (e0.mpr hq)) q
    rw [← hbit, hz]
    exact And.intro rfl (And.intro rfl (And.intro rfl ⟨hxC_area (Or.inl rfl) hx1, hS2⟩))
set_option maxRecDepth 20000 in
theorem k_area2_1 (l : Launch) (s : St) (x y : Int32) (v : Value) (hO : stOK s) (hx0 : (x < 0 ∨ nI (s_B s + s_m s) ≤ x) ∨ (y < 0 ∨ 2 ≤ y)) : clsM l Y_es_area2 [.int x, .int y] s 1 v s := by
  intro h hS
  refine hp_start (T := T_es_area2) (by decide) rfl (fun σ => Nat.le_of_ble_eq_true rfl) (fun G C => ?_)
  refine hp_run_sound hp_co V_es_area2 C (fun _ _ _ _ _ _ _ hq => hq) [] 12 _ _ _ _ _ _ _ ?_
  refine And.intro ⟨0, _, hS.1, rfl⟩ ?_
  by_cases c : x < 0 ∨ nI (s_B s + s_m s) ≤ x
  · refine ic_P (c_es_needLayer_no l h _ _ _ x hS.1 c) (Nat.le_refl _) (Nat.le_refl _) ?_
    exact ⟨rfl, hxC_rf h, hS⟩
  · refine ic_P (c_es_needLayer l h _ _ _ x hS.1 (fun q => c (Or.inl q)) (fun q => c (Or.inr q))) (Nat.le_add_left _ _) (Nat.le_add_left _ _) ?_
    refine ic_P (c_es_needIndex_no l h y 2 (by rcases hx0 with e | e; exact absurd e c; exact e)) (Nat.le_refl _) (Nat.le_refl _) ?_
    exact ⟨rfl, hxC_rf h, hS⟩
/-! the number of squares of rows f; the length of their edges -/
set_option maxRecDepth 20000 in
theorem k_area2_0 (l : Launch) (s : St) (L i : Nat) (hO : stOK s) (hL : L < s_B s + s_m s) (hi : i < 2) (F : Nat → Int64) (hF : shw s L F) : clsM l Y_es_area2 [.int (nI L), .int (nI i)] s 0 (.long (if i = 0 then 2 * (nI (sm (fun y => cn (bb (F y)) 64) 64)).toInt64 else (nI (xtl F 65)).toInt64)) s := by
  intro h hS
  refine hp_start (T := T_es_area2) (by decide) rfl (fun σ => Nat.le_of_ble_eq_true rfl) (fun G C => ?_)
  refine hp_run_sound hp_co V_es_area2 C (fun _ _ _ _ _ _ _ hq => hq) [] 40 _ _ _ _ _ _ _ ?_
  refine And.intro ⟨0, _, hS.1, rfl⟩ ?_
  refine ic_P (c_es_needLayer l h _ _ _ (nI L) hS.1 (lay_ok hO hL).1 (lay_ok hO hL).2) (Nat.le_add_left _ _) (Nat.le_add_left _ _) ?_
  refine ic_P (c_es_needIndex l h (nI i) 2 (nI_pos (by omega)) (nI_ge (b := 2) hi (by decide))) (Nat.le_add_left _ _) (Nat.le_add_left _ _) ?_
  refine Exists.intro _ (And.intro hS.1 ?_)
  refine And.intro ⟨0, _, hS.1, rfl⟩ ?_
  refine ic_Q (c_es_areaOf l h s L 72 hO hS hL (Or.inl rfl)) (Nat.le_add_left _ _) (Nat.le_add_left _ _) (fun r h2 hq => ?_)
  obtain ⟨b, f, rfl, hb, hf, hsh, hx1, hS2⟩ := hq
  have hfF : ∀ y, y < 64 → f y = F y := fun y hy => bb_ext (fun x hx2 => (hsh y x hy hx2).trans (hF y x hy hx2).symm)
  have hrw : ∀ y, rwN f y = rwN F y := fun y => by
    unfold rwN
    by_cases q : y < 64
    · rw [if_pos q, if_pos q, hfF y q]
    · rw [if_neg q, if_neg q]
  have hsm : ∀ (p q : Nat → Nat) n, (∀ y, y < n → p y = q y) → sm p n = sm q n := by
    intro p q n
    induction n with
    | zero => intro _; rfl
    | succ n ih => intro e; rw [sm_s, sm_s, ih (fun y hy => e y (by omega)), e n (by omega)]
  refine And.intro (fun q => ?_) (fun q => ?_)
  · have hi1 : ¬ i = 0 := fun e => q (by rw [e]; rfl)
    refine ic_P (c_li_totalLength l h2 b f hf) (Nat.le_add_left _ _) (Nat.le_add_left _ _) ?_
    have e : xtl f 65 = xtl F 65 := hsm _ _ 65 (fun y hy => by
      have e2 : rwB f y = rwB F y := by unfold rwB; rw [hrw]
      rw [hrw, e2])
    rw [if_neg hi1, ← e]
    exact And.intro rfl (And.intro rfl ⟨rfl, hxC_area (Or.inl rfl) hx1, hS2⟩)
  · have hi1 : i = 0 := (nI_eq (b := 0) (by omega) (by decide)).mp q
    refine ic_P (c_ro_countSquares l h2 b f hf) (Nat.le_add_left _ _) (Nat.le_add_left _ _) ?_
    have e : sm (fun y => cn (bb (f y)) 64) 64 = sm (fun y => cn (bb (F y)) 64) 64 := hsm _ _ 64 (fun y hy => by rw [hfF y hy])
    rw [if_pos hi1, ← e]
    exact And.intro rfl (And.intro rfl ⟨rfl, hxC_area (Or.inl rfl) hx1, hS2⟩)
