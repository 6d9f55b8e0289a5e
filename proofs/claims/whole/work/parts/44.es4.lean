/-! corner, clear, strips -/
theorem lN_j {n : Nat} (h : n < 2 ^ 64) : (lN n).toInt32 = nI n := by rw [nn_i, nn_lN h]
theorem stP {s : St} {h : hp_H} (hS : esS h s) : h[2]? = some (PO (s_c s)) := hS.2.1.1
set_option maxRecDepth 20000 in
theorem k_corner_1 (l : Launch) (s : St) (x : Int32) (a b : Int64) (v : Value) (hx0 : x < 0 ∨ nI (s_c s) ≤ x) : clsM l Y_es_corner [.int x, .long a, .long b] s 1 v s := by
  intro h hS
  refine hp_start (T := T_es_corner) (by decide) rfl (fun σ => Nat.le_of_ble_eq_true rfl) (fun G C => ?_)
  have thr : ∀ lv, hp_W G 11 lv [] h true 0 0 := fun lv => hq_throw (ik := 62) (is := 85) (ic := 66) (ci := 0) (text := "no such polygon") V_es_corner C tw_es0 (by decide) rfl rfl rfl rfl rfl rfl (by decide) (by decide) (by decide) (by decide) ⟨rfl, hxC_rf h, hS⟩
  refine hp_run_sound hp_co V_es_corner C (fun _ _ _ _ _ _ _ hq => hq) [11] 12 _ _ _ _ _ _ _ ?_
  refine Exists.intro _ (And.intro hS.1 ?_)
  refine And.intro ⟨1, _, stP hS, rfl⟩ ?_
  refine ic_P (c_po_has l h _ x (stP hS)) (Nat.le_add_left _ _) (Nat.le_add_left _ _) ?_
  rw [decide_eq_false (fun e => by rcases hx0 with q | q; exact e.1 q; exact e.2 q)]
  exact And.intro (fun q => absurd rfl q) (fun q => thr _)
set_option maxRecDepth 20000 in
theorem k_corner_2 (l : Launch) (s : St) (p : Nat) (a b : Int64) (v : Value) (hO : stOK s) (hp : p < s_c s) (hk : s_k s p = 16) : clsM l Y_es_corner [.int (nI p), .long a, .long b] s 2 v s := by
  intro h hS
  obtain ⟨o1, o2, o3, o4, o5, o6, o7, o8, o9, o10⟩ := hO
  refine hp_start (T := T_es_corner) (by decide) rfl (fun σ => Nat.le_of_ble_eq_true rfl) (fun G C => ?_)
  have thr : ∀ lv, hp_W G 32 lv [] h true 0 0 := fun lv => hq_throw (ik := 73) (is := 90) (ic := 77) (ci := 1) (text := "the polygon has 16 corners") V_es_corner C tw_es1 (by decide) rfl rfl rfl rfl rfl rfl (by decide) (by decide) (by decide) (by decide) ⟨rfl, hxC_rf h, hS⟩
  refine hp_run_sound hp_co V_es_corner C (fun _ _ _ _ _ _ _ hq => hq) [32] 20 _ _ _ _ _ _ _ ?_
  refine Exists.intro _ (And.intro hS.1 ?_)
  refine And.intro ⟨1, _, stP hS, rfl⟩ ?_
  refine ic_P (c_po_has l h _ (nI p) (stP hS)) (Nat.le_add_left _ _) (Nat.le_add_left _ _) ?_
  rw [decide_eq_true ⟨nI_pos (by omega), nI_ge hp (by omega)⟩]
  refine And.intro (fun q => ?_) (fun q => absurd q (by decide))
  refine Exists.intro _ (And.intro hS.1 ?_)
  refine And.intro ⟨1, _, stP hS, rfl⟩ ?_
  refine ic_P (c_po_hasAllCorners l h _ p (by omega) _ (o8 p (by omega)) (stP hS) hS.2.1.2.2.1) (Nat.le_add_left _ _) (Nat.le_add_left _ _) ?_
  rw [decide_eq_true (by omega : 16 ≤ s_k s p)]
  exact And.intro (fun q => absurd q (by decide)) (fun q => thr _)
set_option maxRecDepth 20000 in
theorem k_corner_3 (l : Launch) (s : St) (p : Nat) (a b : Int64) (v : Value) (hO : stOK s) (hp : p < s_c s) (hk : s_k s p < 16) (hab : a < 0 ∨ 64 < a ∨ b < 0 ∨ 64 < b) : clsM l Y_es_corner [.int (nI p), .long a, .long b] s 3 v s := by
  intro h hS
  obtain ⟨o1, o2, o3, o4, o5, o6, o7, o8, o9, o10⟩ := hO
  refine hp_start (T := T_es_corner) (by decide) rfl (fun σ => Nat.le_of_ble_eq_true rfl) (fun G C => ?_)
  have thr : ∀ lv, hp_W G 72 lv [] h true 0 0 := fun lv => hq_throw (ik := 94) (is := 96) (ic := 98) (ci := 2) (text := "x or y is not 0 .. 64") V_es_corner C tw_es2 (by decide) rfl rfl rfl rfl rfl rfl (by decide) (by decide) (by decide) (by decide) ⟨rfl, hxC_rf h, hS⟩
  refine hp_run_sound hp_co V_es_corner C (fun _ _ _ _ _ _ _ hq => hq) [72] 40 _ _ _ _ _ _ _ ?_
  refine Exists.intro _ (And.intro hS.1 ?_)
  refine And.intro ⟨1, _, stP hS, rfl⟩ ?_
  refine ic_P (c_po_has l h _ (nI p) (stP hS)) (Nat.le_add_left _ _) (Nat.le_add_left _ _) ?_
  rw [decide_eq_true ⟨nI_pos (by omega), nI_ge hp (by omega)⟩]
  refine And.intro (fun q => ?_) (fun q => absurd q (by decide))
  refine Exists.intro _ (And.intro hS.1 ?_)
  refine And.intro ⟨1, _, stP hS, rfl⟩ ?_
  refine ic_P (c_po_hasAllCorners l h _ p (by omega) _ (o8 p (by omega)) (stP hS) hS.2.1.2.2.1) (Nat.le_add_left _ _) (Nat.le_add_left _ _) ?_
  rw [decide_eq_false (by omega : ¬ 16 ≤ s_k s p)]
  refine And.intro (fun q => ?_) (fun q => absurd rfl q)
  refine And.intro (fun q1 => thr _) (fun q1 => And.intro (fun q2 => thr _) (fun q2 => And.intro (fun q3 => thr _) (fun q3 => And.intro (fun q4 => ?_) (fun q4 => thr _))))
  exfalso
  rcases hab with e | e | e | e
  · exact q1 ((lg_cmp_lt _ _).mpr e)
  · exact q2 ((lg_cmp_gt _ _).mpr e)
  · exact q3 ((lg_cmp_lt _ _).mpr e)
  · exact absurd ((lg_cmp_le _ _).mp q4) (Int64.not_le.mpr e)
theorem lN_nneg {n : Nat} (h : n < 2 ^ 63) : ¬ lN n < 0 := fun q => by
  have := Int64.lt_iff_toInt_lt.mp q
  rw [pk_lT h] at this
  have h0 : (0 : Int64).toInt = 0 := rfl
  omega
theorem lN_n64 {n : Nat} (h : n ≤ 64) : ¬ 64 < lN n := fun q => by
  have := Int64.lt_iff_toInt_lt.mp q
  rw [pk_lT (by omega)] at this
  have h0 : (64 : Int64).toInt = 64 := rfl
  omega
set_option maxRecDepth 20000 in
theorem k_corner_f (l : Launch) (s : St) (p x y : Nat) (hO : stOK s) (hp : p < s_c s) (hk : s_k s p < 16) (hx2 : x ≤ 64) (hy2 : y ≤ 64) (hk0 : 0 < s_k s p) (hd : dif (s_X s) (s_Y s) p (s_k s p - 1) x y = false) : clsM l Y_es_corner [.int (nI p), .long (lN x), .long (lN y)] s 0 (.int 0) s := by
  intro h hS
  obtain ⟨o1, o2, o3, o4, o5, o6, o7, o8, o9, o10⟩ := hO
  refine hp_start (T := T_es_corner) (by decide) rfl (fun σ => Nat.le_of_ble_eq_true rfl) (fun G C => ?_)
  refine hp_run_sound hp_co V_es_corner C (fun _ _ _ _ _ _ _ hq => hq) [72] 50 _ _ _ _ _ _ _ ?_
  refine Exists.intro _ (And.intro hS.1 ?_)
  refine And.intro ⟨1, _, stP hS, rfl⟩ ?_
  refine ic_P (c_po_has l h _ (nI p) (stP hS)) (Nat.le_add_left _ _) (Nat.le_add_left _ _) ?_
  rw [decide_eq_true ⟨nI_pos (by omega), nI_ge hp (by omega)⟩]
  refine And.intro (fun q => ?_) (fun q => absurd q (by decide))
  refine Exists.intro _ (And.intro hS.1 ?_)
  refine And.intro ⟨1, _, stP hS, rfl⟩ ?_
  refine ic_P (c_po_hasAllCorners l h _ p (by omega) _ (o8 p (by omega)) (stP hS) hS.2.1.2.2.1) (Nat.le_add_left _ _) (Nat.le_add_left _ _) ?_
  rw [decide_eq_false (by omega : ¬ 16 ≤ s_k s p)]
  refine And.intro (fun q => ?_) (fun q => absurd rfl q)
  refine And.intro (fun q => absurd ((lg_cmp_lt _ _).mp q) (lN_nneg (by omega))) (fun q => ?_)
  refine And.intro (fun q => absurd ((lg_cmp_gt _ _).mp q) (lN_n64 hx2)) (fun q => ?_)
  refine And.intro (fun q => absurd ((lg_cmp_lt _ _).mp q) (lN_nneg (by omega))) (fun q => ?_)
  refine And.intro (fun q => ?_) (fun q => absurd ((lg_cmp_le _ _).mpr (Int64.not_lt.mp (lN_n64 hy2))) q)
  refine Exists.intro _ (And.intro hS.1 ?_)
  refine And.intro ⟨1, _, stP hS, rfl⟩ ?_
  have b1 := o9 p (s_k s p - 1) (by omega)
  have b2 := o10 p (s_k s p - 1) (by omega)
  have hM := c_po_extend_no l h _ p x y (by omega) (by omega) (by omega) _ _ _ _ hk hk0 (by omega) (by omega) hd hS.2.1
  rw [← lN_j (show x < 2 ^ 64 by omega), ← lN_j (show y < 2 ^ 64 by omega)] at hM
  refine ic_P hM (Nat.le_add_left _ _) (Nat.le_add_left _ _) ?_
  exact And.intro rfl (And.intro rfl (And.intro rfl ⟨hxC_rf h, hS⟩))
set_option maxRecDepth 20000 in
theorem k_corner_t (l : Launch) (s : St) (p x y : Nat) (hO : stOK s) (hp : p < s_c s) (hk : s_k s p < 16) (hx2 : x ≤ 64) (hy2 : y ≤ 64) (hd : s_k s p = 0 ∨ dif (s_X s) (s_Y s) p (s_k s p - 1) x y = true) : clsM l Y_es_corner [.int (nI p), .long (lN x), .long (lN y)] s 0 (.int 1) (St' (s_B s) (s_m s) (s_n s) (s_c s) (s_lay s) (updN (s_k s) p (s_k s p + 1)) (updF (s_X s) p (updN (s_X s p) (s_k s p) x)) (updF (s_Y s) p (updN (s_Y s p) (s_k s p) y)) (s_D s)) := by
  intro h hS
  obtain ⟨o1, o2, o3, o4, o5, o6, o7, o8, o9, o10⟩ := hO
  refine hp_start (T := T_es_corner) (by decide) rfl (fun σ => Nat.le_of_ble_eq_true rfl) (fun G C => ?_)
  refine hp_run_sound hp_co V_es_corner C (fun _ _ _ _ _ _ _ hq => hq) [72] 50 _ _ _ _ _ _ _ ?_
  refine Exists.intro _ (And.intro hS.1 ?_)
  refine And.intro ⟨1, _, stP hS, rfl⟩ ?_
  refine ic_P (c_po_has l h _ (nI p) (stP hS)) (Nat.le_add_left _ _) (Nat.le_add_left _ _) ?_
  rw [decide_eq_true ⟨nI_pos (by omega), nI_ge hp (by omega)⟩]
  refine And.intro (fun q => ?_) (fun q => absurd q (by decide))
  refine Exists.intro _ (And.intro hS.1 ?_)
  refine And.intro ⟨1, _, stP hS, rfl⟩ ?_
  refine ic_P (c_po_hasAllCorners l h _ p (by omega) _ (o8 p (by omega)) (stP hS) hS.2.1.2.2.1) (Nat.le_add_left _ _) (Nat.le_add_left _ _) ?_
  rw [decide_eq_false (by omega : ¬ 16 ≤ s_k s p)]
  refine And.intro (fun q => ?_) (fun q => absurd rfl q)
  refine And.intro (fun q => absurd ((lg_cmp_lt _ _).mp q) (lN_nneg (by omega))) (fun q => ?_)
  refine And.intro (fun q => absurd ((lg_cmp_gt _ _).mp q) (lN_n64 hx2)) (fun q => ?_)
  refine And.intro (fun q => absurd ((lg_cmp_lt _ _).mp q) (lN_nneg (by omega))) (fun q => ?_)
  refine And.intro (fun q => ?_) (fun q => absurd ((lg_cmp_le _ _).mpr (Int64.not_lt.mp (lN_n64 hy2))) q)
  refine Exists.intro _ (And.intro hS.1 ?_)
  refine And.intro ⟨1, _, stP hS, rfl⟩ ?_
  have b1 := o9 p (s_k s p - 1) (by omega)
  have b2 := o10 p (s_k s p - 1) (by omega)
  have hM := c_po_extend l h _ p x y (by omega) (by omega) (by omega) _ _ _ _ hk (by omega) (by omega) hd hS.2.1
  rw [← lN_j (show x < 2 ^ 64 by omega), ← lN_j (show y < 2 ^ 64 by omega)] at hM
  refine ic_Q hM (Nat.le_add_left _ _) (Nat.le_add_left _ _) (fun r h2 hq => ?_)
  obtain ⟨rfl, x2, hP⟩ := hq
  refine And.intro rfl (And.intro rfl (And.intro rfl ⟨hxC_of x2 (fun q hq => ?_), esS_po hS x2 (fun q hq => ?_) hP⟩))
  · simp at hq; omega
  · simp at hq; omega
set_option maxRecDepth 20000 in
theorem k_clear (l : Launch) (h : hp_H) (s : St) (hS : esS h s) : hp_M l Y_es_clear [.ref 1] h false 0 0 (fun r h' => r = .inl none ∧ hxC h h' ∧ esS h' (St' (s_B s) 0 (s_n s) 0 (s_lay s) (s_k s) (s_X s) (s_Y s) (s_D s))) := by
  refine hp_start (T := T_es_clear) (by decide) rfl (fun σ => Nat.le_of_ble_eq_true rfl) (fun G C => ?_)
  refine hp_run_sound hp_co V_es_clear C (fun _ _ _ _ _ _ _ hq => hq) [] 20 _ _ _ _ _ _ _ ?_
  refine Exists.intro _ (And.intro hS.1 ?_)
  refine And.intro ⟨1, _, stP hS, rfl⟩ ?_
  refine ic_P (c_po_forget l h _ (stP hS)) (Nat.le_refl _) (Nat.le_refl _) ?_
  have x2 : hx [2] h (h.set 2 (PO 0)) := hx_set (hx_rf _ _) _ (by decide)
  have hP : poS (h.set 2 (PO 0)) 0 (s_lay s) (s_k s) (s_X s) (s_Y s) := by
    obtain ⟨a1, a2, a3, a4, a5, a6, a7⟩ := hS.2.1
    exact ⟨hq_get a1, by rw [hq_ne (by decide)]; exact a2, by rw [hq_ne (by decide)]; exact a3, by rw [hq_ne (by decide)]; exact a4, fun p hp => by rw [hq_ne (by omega)]; exact a5 p hp, by rw [hq_ne (by decide)]; exact a6, fun p hp => by rw [hq_ne (by omega)]; exact a7 p hp⟩
  have hS2 := esS_po hS x2 (by decide) hP
  refine And.intro (Or.inl rfl) (Exists.intro _ (And.intro hS2.1 (And.intro (Nat.le_of_ble_eq_true rfl) (And.intro rfl (And.intro rfl ?_)))))
  exact And.intro rfl (And.intro rfl (And.intro rfl ⟨hxC_of (ps := [1, 2]) (hx_set (hx_tr x2 (hx_rf [] _) _ (by decide) (by decide)) _ (by decide)) (by decide), esS_1 hS2 0 (s_n s)⟩))
set_option maxRecDepth 20000 in
theorem k_strips_1 (l : Launch) (s : St) (x : Int32) (v : Value) (hx0 : x < 1 ∨ 64 < x) : clsM l Y_es_strips [.int x] s 1 v s := by
  intro h hS
  refine hp_start (T := T_es_strips) (by decide) rfl (fun σ => Nat.le_of_ble_eq_true rfl) (fun G C => ?_)
  have thr : ∀ lv, hp_W G 11 lv [] h true 0 0 := fun lv => hq_throw (ik := 62) (is := 196) (ic := 66) (ci := 0) (text := "n is not 1 .. 64") V_es_strips C tw_es0 (by decide) rfl rfl rfl rfl rfl rfl (by decide) (by decide) (by decide) (by decide) ⟨rfl, hxC_rf h, hS⟩
  refine hp_run_sound hp_co V_es_strips C (fun _ _ _ _ _ _ _ hq => hq) [11] 12 _ _ _ _ _ _ _ ?_
  refine And.intro (fun q => thr _) (fun q => And.intro (fun q2 => ?_) (fun q2 => thr _))
  rcases hx0 with e | e
  · exact absurd e q
  · exact absurd q2 (Int32.not_le.mpr e)
set_option maxRecDepth 20000 in
theorem k_strips_0 (l : Launch) (s : St) (n : Nat) (h1 : 1 ≤ n) (h2 : n ≤ 64) : clsM l Y_es_strips [.int (nI n)] s 0 (.int (nI (s_n s))) (St' (s_B s) (s_m s) n (s_c s) (s_lay s) (s_k s) (s_X s) (s_Y s) (s_D s)) := by
  intro h hS
  refine hp_start (T := T_es_strips) (by decide) rfl (fun σ => Nat.le_of_ble_eq_true rfl) (fun G C => ?_)
  refine hp_run_sound hp_co V_es_strips C (fun _ _ _ _ _ _ _ hq => hq) [11] 20 _ _ _ _ _ _ _ ?_
  refine And.intro (fun q => absurd q (nI_nlt (b := 1) h1 (by omega))) (fun q => And.intro (fun q2 => ?_) (fun q2 => absurd (nI_le (b := 64) h2 (by decide)) q2))
  refine Exists.intro _ (And.intro hS.1 ?_)
  refine And.intro (Or.inl rfl) (Exists.intro _ (And.intro hS.1 (And.intro (Nat.le_of_ble_eq_true rfl) (And.intro rfl (And.intro rfl ?_)))))
  exact And.intro rfl (And.intro rfl (And.intro rfl ⟨hxC_of (ps := [1]) (hx_set (hx_rf _ _) _ (by decide)) (by decide), esS_1 hS (s_m s) n⟩))
