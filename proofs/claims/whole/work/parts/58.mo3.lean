/-! the reference: clear, strips, corner -/
set_option maxRecDepth 20000 in
theorem m_clear (l : Launch) (h : hp_H) (s : St) (cd : Int32) (hS : moS h s cd) : hp_M l Y_mo_clear [.ref 75] h false 0 0 (fun r h' => r = .inl none ∧ hxM h h' ∧ moS h' (St' (s_B s) 0 (s_n s) 0 (s_lay s) (s_k s) (s_X s) (s_Y s) (s_D s)) (nI 0)) := by
  obtain ⟨u, rfl, hC⟩ := hS
  refine hp_start (T := T_mo_clear) (by decide) rfl (fun σ => Nat.le_of_ble_eq_true rfl) (fun G C => ?_)
  refine hp_run_sound hp_co V_mo_clear C (fun _ _ _ _ _ _ _ hq => hq) [] 12 _ _ _ _ _ _ _ ?_
  have hC1 := moC_cd hC 0
  refine And.intro (Or.inl rfl) (Exists.intro _ (And.intro hC.1 (And.intro (Nat.le_of_ble_eq_true rfl) (And.intro rfl (And.intro rfl ?_)))))
  have hC2 := moC_set hC1 (St' (s_B s) (s_m s) (s_n s) 0 (s_lay s) (s_k s) (s_X s) (s_Y s) (s_D s)) (0, u.2) hC1.2.1
  refine And.intro (Or.inl rfl) (Exists.intro _ (And.intro hC1.1 (And.intro (Nat.le_of_ble_eq_true rfl) (And.intro rfl (And.intro rfl ?_)))))
  have hC3 := moC_set hC2 (St' (s_B s) 0 (s_n s) 0 (s_lay s) (s_k s) (s_X s) (s_Y s) (s_D s)) (0, u.2) hC2.2.1
  refine And.intro (Or.inl rfl) (Exists.intro _ (And.intro hC2.1 (And.intro (Nat.le_of_ble_eq_true rfl) (And.intro rfl (And.intro rfl ?_)))))
  exact And.intro rfl (And.intro rfl ⟨rfl, hxM_set (hxM_set (hxM_75 h _) _ (by omega)) _ (by omega), _, rfl, hC3⟩)
set_option maxRecDepth 20000 in
theorem m_strips_1 (l : Launch) (s : St) (x : Int32) (hx0 : x < 1 ∨ 64 < x) : moM l Y_mo_strips [.int x] s 1 (.int 0) s := by
  rintro h cd ⟨u, rfl, hC⟩
  refine hp_start (T := T_mo_strips) (by decide) rfl (fun σ => Nat.le_of_ble_eq_true rfl) (fun G C => ?_)
  have t17 : hp_W G 17 [(0, .ref 75), (1, .int x)] [.int 1, .ref 75] h true 0 0 := by
    refine hp_run_sound hp_co V_mo_strips C (fun _ _ _ _ _ _ _ hq => hq) [] 20 _ _ _ _ _ _ _ ?_
    refine And.intro (Or.inl rfl) (Exists.intro _ (And.intro hC.1 (And.intro (Nat.le_of_ble_eq_true rfl) (And.intro rfl (And.intro rfl ?_)))))
    refine Exists.intro _ (And.intro (hq_get hC.1) ?_)
    refine And.intro (fun q => absurd q (by decide)) (fun q => ?_)
    exact And.intro rfl (And.intro rfl (And.intro rfl ⟨hxM_75 h _, _, rfl, moC_cd hC 1⟩))
  refine hp_run_sound hp_co V_mo_strips C (fun _ _ _ _ _ _ _ hq => hq) [17] 10 _ _ _ _ _ _ _ ?_
  refine And.intro (fun q => t17) (fun q => And.intro (fun q2 => ?_) (fun q2 => t17))
  rcases hx0 with e | e
  · exact absurd e q
  · exact absurd e (Int32.not_lt.mpr q2)
set_option maxRecDepth 20000 in
theorem m_strips_0 (l : Launch) (s : St) (n : Nat) (h1 : 1 ≤ n) (h2 : n ≤ 64) : moM l Y_mo_strips [.int (nI n)] s 0 (.int (nI (s_n s))) (St' (s_B s) (s_m s) n (s_c s) (s_lay s) (s_k s) (s_X s) (s_Y s) (s_D s)) := by
  rintro h cd ⟨u, rfl, hC⟩
  refine hp_start (T := T_mo_strips) (by decide) rfl (fun σ => Nat.le_of_ble_eq_true rfl) (fun G C => ?_)
  have t29 : ∀ h1, moC h1 s (0, u.2) → hxM h h1 → hp_W G 29 [(0, .ref 75), (1, .int (nI n))] [] h1 false 0 0 := by
    intro h1 hC1 hx1
    refine hp_run_sound hp_co V_mo_strips C (fun _ _ _ _ _ _ _ hq => hq) [] 20 _ _ _ _ _ _ _ ?_
    refine Exists.intro _ (And.intro hC1.1 ?_)
    refine And.intro (Or.inl rfl) (Exists.intro _ (And.intro hC1.1 (And.intro (Nat.le_of_ble_eq_true rfl) (And.intro rfl (And.intro rfl ?_)))))
    exact And.intro rfl (And.intro rfl (And.intro rfl ⟨hxM_set hx1 _ (by omega), _, rfl, moC_set hC1 (St' (s_B s) (s_m s) n (s_c s) (s_lay s) (s_k s) (s_X s) (s_Y s) (s_D s)) (0, u.2) hC1.2.1⟩))
  refine hp_run_sound hp_co V_mo_strips C (fun _ _ _ _ _ _ _ hq => hq) [29] 20 _ _ _ _ _ _ _ ?_
  refine And.intro (fun q => absurd q (nI_nlt (b := 1) h1 (by omega))) (fun q => And.intro (fun q2 => ?_) (fun q2 => absurd (nI_le (b := 64) h2 (by decide)) q2))
  refine And.intro (Or.inl rfl) (Exists.intro _ (And.intro hC.1 (And.intro (Nat.le_of_ble_eq_true rfl) (And.intro rfl (And.intro rfl ?_)))))
  refine Exists.intro _ (And.intro (hq_get hC.1) ?_)
  refine And.intro (fun q => ?_) (fun q => absurd (show (0 : Int32) ≤ 0 by decide) q)
  exact t29 _ (moC_cd hC 0) (hxM_75 h _)
set_option maxRecDepth 20000 in
theorem m_corner_1 (l : Launch) (s : St) (x : Int32) (a b : Int64) (hx0 : x < 0 ∨ nI (s_c s) ≤ x) : moM l Y_mo_corner [.int x, .long a, .long b] s 1 (.int 0) s := by
  rintro h cd ⟨u, rfl, hC⟩
  refine hp_start (T := T_mo_corner) (by decide) rfl (fun σ => Nat.le_of_ble_eq_true rfl) (fun G C => ?_)
  have t67 : hp_W G 67 [(0, .ref 75), (1, .int x), (2, .long a), (4, .long b)] [.int 1, .ref 75] h true 0 0 := by
    refine hp_run_sound hp_co V_mo_corner C (fun _ _ _ _ _ _ _ hq => hq) [79] 20 _ _ _ _ _ _ _ ?_
    refine And.intro (Or.inl rfl) (Exists.intro _ (And.intro hC.1 (And.intro (Nat.le_of_ble_eq_true rfl) (And.intro rfl (And.intro rfl ?_)))))
    refine Exists.intro _ (And.intro (hq_get hC.1) ?_)
    refine And.intro (fun q => absurd q (by decide)) (fun q => ?_)
    exact And.intro rfl (And.intro rfl (And.intro rfl ⟨hxM_75 h _, _, rfl, moC_cd hC 1⟩))
  refine hp_run_sound hp_co V_mo_corner C (fun _ _ _ _ _ _ _ hq => hq) [17, 67] 10 _ _ _ _ _ _ _ ?_
  refine And.intro (fun q => t67) (fun q => ?_)
  refine Exists.intro _ (And.intro hC.1 ?_)
  refine And.intro (fun q2 => ?_) (fun q2 => t67)
  rcases hx0 with e | e
  · exact absurd e q
  · exact absurd q2 (Int32.not_lt.mpr e)
set_option maxRecDepth 20000 in
theorem m_corner_2 (l : Launch) (s : St) (p : Nat) (a b : Int64) (hO : stOK s) (hp : p < s_c s) (hk : s_k s p = 16) : moM l Y_mo_corner [.int (nI p), .long a, .long b] s 2 (.int 0) s := by
  rintro h cd ⟨u, rfl, hC⟩
  have hp16 : p < 16 := Nat.lt_of_lt_of_le hp hO.2.2.2.2.2.1
  refine hp_start (T := T_mo_corner) (by decide) rfl (fun σ => Nat.le_of_ble_eq_true rfl) (fun G C => ?_)
  refine hp_run_sound hp_co V_mo_corner C (fun _ _ _ _ _ _ _ hq => hq) [32, 79] 40 _ _ _ _ _ _ _ ?_
  refine And.intro (fun q => absurd q (nI_pos (by omega))) (fun q => ?_)
  refine Exists.intro _ (And.intro hC.1 ?_)
  refine And.intro (fun q2 => ?_) (fun q2 => absurd (nI_lt hp (by have := hO.2.2.2.2.2.1; omega)) q2)
  refine Exists.intro _ (And.intro hC.1 ?_)
  refine Exists.intro .int (Exists.intro 16 (Exists.intro _ (And.intro (Or.inl rfl) (And.intro hC.2.1.2.1 (And.intro (in_nI hp16 (by decide)) ?_)))))
  rw [nI_clamp (by omega), hk]
  refine And.intro (fun q3 => absurd rfl q3) (fun q3 => ?_)
  refine And.intro (Or.inl rfl) (Exists.intro _ (And.intro hC.1 (And.intro (Nat.le_of_ble_eq_true rfl) (And.intro rfl (And.intro rfl ?_)))))
  refine Exists.intro _ (And.intro (hq_get hC.1) ?_)
  refine And.intro (fun q => absurd q (by decide)) (fun q => ?_)
  exact And.intro rfl (And.intro rfl (And.intro rfl ⟨hxM_75 h _, _, rfl, moC_cd hC 2⟩))
/-- corner up to its four comparisons -/
theorem m_corner_start (l : Launch) (s : St) (u : moT) (p : Nat) (a b : Int64) (hO : stOK s) (hp : p < s_c s) (hk : s_k s p < 16) {h : hp_H} (hC : moC h s u) {Q : hp_R → hp_H → Prop} {G : hp_G} (C : hp_ctx T_mo_corner Y_mo_corner l false 0 0 Q G)
    (hi : hp_W G 32 [(0, .ref 75), (1, .int (nI p)), (2, .long a), (4, .long b)] [.ref 75] h true 0 0) : hp_W G 0 [(0, .ref 75), (1, .int (nI p)), (2, .long a), (4, .long b)] [] h true 0 0 := by
  have hp16 : p < 16 := Nat.lt_of_lt_of_le hp hO.2.2.2.2.2.1
  refine hp_run_sound hp_co V_mo_corner C (fun _ _ _ _ _ _ _ hq => hq) [32, 79] 40 _ _ _ _ _ _ _ ?_
  refine And.intro (fun q => absurd q (nI_pos (by omega))) (fun q => ?_)
  refine Exists.intro _ (And.intro hC.1 ?_)
  refine And.intro (fun q2 => ?_) (fun q2 => absurd (nI_lt hp (by have := hO.2.2.2.2.2.1; omega)) q2)
  refine Exists.intro _ (And.intro hC.1 ?_)
  refine Exists.intro .int (Exists.intro 16 (Exists.intro _ (And.intro (Or.inl rfl) (And.intro hC.2.1.2.1 (And.intro (in_nI hp16 (by decide)) ?_)))))
  rw [nI_clamp (by omega)]
  exact And.intro (fun q3 => hi) (fun q3 => absurd ((nI_eq (b := 16) (by omega) (by decide)).mp q3) (by omega))
set_option maxRecDepth 20000 in
theorem m_corner_3 (l : Launch) (s : St) (p : Nat) (a b : Int64) (hO : stOK s) (hp : p < s_c s) (hk : s_k s p < 16) (hab : a < 0 ∨ 64 < a ∨ b < 0 ∨ 64 < b) : moM l Y_mo_corner [.int (nI p), .long a, .long b] s 3 (.int 0) s := by
  rintro h cd ⟨u, rfl, hC⟩
  refine hp_start (T := T_mo_corner) (by decide) rfl (fun σ => Nat.le_of_ble_eq_true rfl) (fun G C => ?_)
  refine m_corner_start l s u p a b hO hp hk hC C ?_
  have t62 : hp_W G 62 [(0, .ref 75), (1, .int (nI p)), (2, .long a), (4, .long b)] [.ref 75] h true 0 0 := by
    refine hp_run_sound hp_co V_mo_corner C (fun _ _ _ _ _ _ _ hq => hq) [79] 20 _ _ _ _ _ _ _ ?_
    refine And.intro (Or.inl rfl) (Exists.intro _ (And.intro hC.1 (And.intro (Nat.le_of_ble_eq_true rfl) (And.intro rfl (And.intro rfl ?_)))))
    refine Exists.intro _ (And.intro (hq_get hC.1) ?_)
    refine And.intro (fun q => absurd q (by decide)) (fun q => ?_)
    exact And.intro rfl (And.intro rfl (And.intro rfl ⟨hxM_75 h _, _, rfl, moC_cd hC 3⟩))
  refine hp_run_sound hp_co V_mo_corner C (fun _ _ _ _ _ _ _ hq => hq) [62, 66] 20 _ _ _ _ _ _ _ ?_
  refine And.intro (fun _ => t62) (fun q1 => And.intro (fun _ => t62) (fun q2 => And.intro (fun _ => t62) (fun q3 => And.intro (fun q4 => ?_) (fun _ => t62))))
  exfalso
  rcases hab with e | e | e | e
  · exact q1 ((lg_cmp_lt _ _).mpr e)
  · exact q2 ((lg_cmp_gt _ _).mpr e)
  · exact q3 ((lg_cmp_lt _ _).mpr e)
  · exact absurd ((lg_cmp_le _ _).mp q4) (Int64.not_le.mpr e)
theorem CA_upd (X : Nat → Nat → Nat) {p k : Nat} (hk : k < 16) (v : Nat) : updN (caF X) (16 * p + k) v = caF (updF X p (updN (X p) k v)) := by
  funext q
  unfold updN caF updF
  by_cases e : q = 16 * p + k
  · rw [if_pos e, if_pos (show q / 16 = p by omega), if_pos (show q % 16 = k by omega)]
  · rw [if_neg e]
    by_cases e2 : q / 16 = p
    · rw [if_pos e2, if_neg (show ¬ q % 16 = k by omega), e2]
    · rw [if_neg e2]
/-- corner from 79 up to its choice at 147 -/
theorem m_corner_79 (l : Launch) (s : St) (u : moT) (p x y : Nat) (hO : stOK s) (hp : p < s_c s) (hk : s_k s p < 16) (hx2 : x ≤ 64) (hy2 : y ≤ 64) {h : hp_H} {h0 : hp_H} (hC0 : moC h0 s u) (hx0 : hxM h h0) {Q : hp_R → hp_H → Prop} {G : hp_G} (C : hp_ctx T_mo_corner Y_mo_corner l false 0 0 Q G)
    (hf : 0 < s_k s p → dif (s_X s) (s_Y s) p (s_k s p - 1) x y = false → ∀ h1, moC h1 s (0, u.2) → hxM h h1 → Q (.inl (some (.int 0))) h1)
    (ht : (s_k s p = 0 ∨ dif (s_X s) (s_Y s) p (s_k s p - 1) x y = true) → ∀ h1, moC h1 s (0, u.2) → hxM h h1 → hp_W G 147 [(0, .ref 75), (1, .int (nI p)), (2, .long (lN x)), (4, .long (lN y)), (6, .int (nI (16 * p + s_k s p)))] [] h1 false 0 0) :
    hp_W G 32 [(0, .ref 75), (1, .int (nI p)), (2, .long (lN x)), (4, .long (lN y))] [.ref 75] h0 true 0 0 := by
  have hp16 : p < 16 := Nat.lt_of_lt_of_le hp hO.2.2.2.2.2.1
  have bX := hO.2.2.2.2.2.2.2.2.1 p (s_k s p - 1) hp16
  have bY := hO.2.2.2.2.2.2.2.2.2 p (s_k s p - 1) hp16
  have t79 : ∀ h1, moC h1 s (0, u.2) → hxM h h1 → hp_W G 79 [(0, .ref 75), (1, .int (nI p)), (2, .long (lN x)), (4, .long (lN y))] [] h1 false 0 0 := by
    intro h1 hC1 hx1
    have fin : ∀ bx by', bx = decide (s_X s p (s_k s p - 1) = x) → by' = decide (s_Y s p (s_k s p - 1) = y) → 0 < s_k s p → hp_W G 142 [(0, .ref 75), (1, .int (nI p)), (2, .long (lN x)), (4, .long (lN y)), (6, .int (nI (16 * p + s_k s p)))] [.int (zI by'), .int (zI bx)] h1 false 0 0 := by
      intro bx by' e1 e2 h0
      refine hp_run_sound hp_co V_mo_corner C (fun _ _ _ _ _ _ _ hq => hq) [147] 10 _ _ _ _ _ _ _ ?_
      refine And.intro (fun q => ?_) (fun q => ?_)
      · refine ht (Or.inr ?_) h1 hC1 hx1
        unfold dif
        rw [← e1, ← e2]
        cases bx <;> cases by'
        · exact absurd rfl q
        · rfl
        · rfl
        · exact absurd rfl q
      · refine And.intro rfl (And.intro rfl (hf h0 ?_ h1 hC1 hx1))
        unfold dif
        rw [← e1, ← e2]
        cases bx <;> cases by'
        · rfl
        · exact absurd q (by decide)
        · exact absurd q (by decide)
        · rfl
    have t121 : ∀ bx, bx = decide (s_X s p (s_k s p - 1) = x) → 0 < s_k s p → hp_W G 121 [(0, .ref 75), (1, .int (nI p)), (2, .long (lN x)), (4, .long (lN y)), (6, .int (nI (16 * p + s_k s p)))] [.int (zI bx)] h1 false 0 0 := by
      intro bx e1 h0
      refine hp_run_sound hp_co V_mo_corner C (fun _ _ _ _ _ _ _ hq => hq) [142] 16 _ _ _ _ _ _ _ ?_
      refine Exists.intro _ (And.intro hC1.1 ?_)
      have e : nI (16 * p + s_k s p) - hp_c 1 = nI (16 * p + s_k s p - 1) := pk_sub (b := 1) (by omega)
      refine Exists.intro .int (Exists.intro 256 (Exists.intro _ (And.intro (Or.inl rfl) (And.intro hC1.2.1.2.2.2.1 (And.intro (by rw [e]; exact in_nI (by omega) (by decide)) ?_)))))
      rw [e, nI_clamp (show 16 * p + s_k s p - 1 < 2 ^ 31 by omega), show 16 * p + s_k s p - 1 = 16 * p + (s_k s p - 1) by omega, caF_at _ (show s_k s p - 1 < 16 by omega)]
      refine And.intro (fun q => ?_) (fun q => ?_)
      · have q' : ¬ lg_cmp (nI (s_Y s p (s_k s p - 1))).toInt64 (lN y) = 0 := q
        rw [nI_l (show s_Y s p (s_k s p - 1) < 2 ^ 31 by omega)] at q'
        exact fin bx false e1 (decide_eq_false (fun c => q' ((lg_cmp_eq _ _).mpr (congrArg lN c)))).symm h0
      · have q' : lg_cmp (nI (s_Y s p (s_k s p - 1))).toInt64 (lN y) = 0 := q
        rw [nI_l (show s_Y s p (s_k s p - 1) < 2 ^ 31 by omega)] at q'
        exact fin bx true e1 (decide_eq_true ((pk_lEQ (by omega) (by omega)).mp ((lg_cmp_eq _ _).mp q'))).symm h0
    refine hp_run_sound hp_co V_mo_corner C (fun _ _ _ _ _ _ _ hq => hq) [121, 147] 40 _ _ _ _ _ _ _ ?_
    refine Exists.intro _ (And.intro hC1.1 ?_)
    refine Exists.intro .int (Exists.intro 16 (Exists.intro _ (And.intro (Or.inl rfl) (And.intro hC1.2.1.2.1 (And.intro (in_nI hp16 (by decide)) ?_)))))
    rw [nI_clamp (show p < 2 ^ 31 by omega)]
    refine Exists.intro _ (And.intro hC1.1 ?_)
    rw [show hp_c 16 * nI p + nI (s_k s p) = nI (16 * p + s_k s p) from by rw [← nI_add, ← pk_mul]; rfl]
    refine Exists.intro .int (Exists.intro 16 (Exists.intro _ (And.intro (Or.inl rfl) (And.intro hC1.2.1.2.1 (And.intro (in_nI hp16 (by decide)) ?_)))))
    rw [nI_clamp (show p < 2 ^ 31 by omega)]
    refine And.intro (fun q => ?_) (fun q => ?_)
    · refine ht (Or.inl ?_) h1 hC1 hx1
      rcases Nat.eq_zero_or_pos (s_k s p) with e | e
      · exact e
      · exact absurd q (nI_nle e (by omega))
    · have h0 : 0 < s_k s p := by
        rcases Nat.eq_zero_or_pos (s_k s p) with e | e
        · rw [e] at q
          exact absurd (by decide) q
        · exact e
      refine Exists.intro _ (And.intro hC1.1 ?_)
      have e : nI (16 * p + s_k s p) - hp_c 1 = nI (16 * p + s_k s p - 1) := pk_sub (b := 1) (by omega)
      refine Exists.intro .int (Exists.intro 256 (Exists.intro _ (And.intro (Or.inl rfl) (And.intro hC1.2.1.2.2.1 (And.intro (by rw [e]; exact in_nI (by omega) (by decide)) ?_)))))
      rw [e, nI_clamp (show 16 * p + s_k s p - 1 < 2 ^ 31 by omega), show 16 * p + s_k s p - 1 = 16 * p + (s_k s p - 1) by omega, caF_at _ (show s_k s p - 1 < 16 by omega)]
      refine And.intro (fun q => ?_) (fun q => ?_)
      · have q' : ¬ lg_cmp (nI (s_X s p (s_k s p - 1))).toInt64 (lN x) = 0 := q
        rw [nI_l (show s_X s p (s_k s p - 1) < 2 ^ 31 by omega)] at q'
        exact t121 false (decide_eq_false (fun c => q' ((lg_cmp_eq _ _).mpr (congrArg lN c)))).symm h0
      · have q' : lg_cmp (nI (s_X s p (s_k s p - 1))).toInt64 (lN x) = 0 := q
        rw [nI_l (show s_X s p (s_k s p - 1) < 2 ^ 31 by omega)] at q'
        exact t121 true (decide_eq_true ((pk_lEQ (by omega) (by omega)).mp ((lg_cmp_eq _ _).mp q'))).symm h0
  refine hp_run_sound hp_co V_mo_corner C (fun _ _ _ _ _ _ _ hq => hq) [62, 79] 30 _ _ _ _ _ _ _ ?_
  refine And.intro (fun q => absurd ((lg_cmp_lt _ _).mp q) (fun c => absurd ((pk_lLT (b := 0) (by omega) (by decide)).mp c) (by omega))) (fun _ => And.intro (fun q => absurd ((lg_cmp_gt _ _).mp q) (fun c => absurd ((pk_lLT (a := 64) (by decide) (by omega)).mp c) (by omega))) (fun _ => And.intro (fun q => absurd ((lg_cmp_lt _ _).mp q) (fun c => absurd ((pk_lLT (b := 0) (by omega) (by decide)).mp c) (by omega))) (fun _ => And.intro (fun q => ?_) (fun q => absurd ((lg_cmp_le _ _).mpr ((pk_lLE (b := 64) (by omega) (by decide)).mpr hy2)) q))))
  refine And.intro (Or.inl rfl) (Exists.intro _ (And.intro hC0.1 (And.intro (Nat.le_of_ble_eq_true rfl) (And.intro rfl (And.intro rfl ?_)))))
  refine Exists.intro _ (And.intro (hq_get hC0.1) ?_)
  refine And.intro (fun q => ?_) (fun q => absurd (show (0 : Int32) ≤ 0 by decide) q)
  exact t79 _ (moC_cd hC0 0) (hxM_set hx0 _ (by omega))
set_option maxRecDepth 20000 in
theorem m_corner_f (l : Launch) (s : St) (p x y : Nat) (hO : stOK s) (hp : p < s_c s) (hk : s_k s p < 16) (hx2 : x ≤ 64) (hy2 : y ≤ 64) (hk0 : 0 < s_k s p) (hd : dif (s_X s) (s_Y s) p (s_k s p - 1) x y = false) : moM l Y_mo_corner [.int (nI p), .long (lN x), .long (lN y)] s 0 (.int 0) s := by
  rintro h cd ⟨u, rfl, hC⟩
  refine hp_start (T := T_mo_corner) (by decide) rfl (fun σ => Nat.le_of_ble_eq_true rfl) (fun G C => ?_)
  refine m_corner_start l s u p _ _ hO hp hk hC C ?_
  refine m_corner_79 l s u p x y hO hp hk hx2 hy2 hC (hxM_rf h) C (fun _ _ h1 hC1 hx1 => ⟨rfl, hx1, _, rfl, hC1⟩) (fun q => ?_)
  rcases q with e | e
  · omega
  · rw [hd] at e
    cases e
set_option maxRecDepth 20000 in
theorem m_corner_t (l : Launch) (s : St) (p x y : Nat) (hO : stOK s) (hp : p < s_c s) (hk : s_k s p < 16) (hx2 : x ≤ 64) (hy2 : y ≤ 64) (hd : s_k s p = 0 ∨ dif (s_X s) (s_Y s) p (s_k s p - 1) x y = true) : moM l Y_mo_corner [.int (nI p), .long (lN x), .long (lN y)] s 0 (.int 1) (St' (s_B s) (s_m s) (s_n s) (s_c s) (s_lay s) (updN (s_k s) p (s_k s p + 1)) (updF (s_X s) p (updN (s_X s p) (s_k s p) x)) (updF (s_Y s) p (updN (s_Y s p) (s_k s p) y)) (s_D s)) := by
  rintro h cd ⟨u, rfl, hC⟩
  have hp16 : p < 16 := Nat.lt_of_lt_of_le hp hO.2.2.2.2.2.1
  refine hp_start (T := T_mo_corner) (by decide) rfl (fun σ => Nat.le_of_ble_eq_true rfl) (fun G C => ?_)
  refine m_corner_start l s u p _ _ hO hp hk hC C ?_
  refine m_corner_79 l s u p x y hO hp hk hx2 hy2 hC (hxM_rf h) C (fun q1 q2 => ?_) (fun _ h1 hC1 hx1 => ?_)
  · rcases hd with e | e
    · omega
    · rw [q2] at e
      cases e
  · have hC2 := moC_78 hC1 (updF (s_X s) p (updN (s_X s p) (s_k s p) x))
    have hC3 := moC_79 hC2 (updF (s_Y s) p (updN (s_Y s p) (s_k s p) y))
    have hC4 := moC_77 hC3 (updN (s_k s) p (s_k s p + 1))
    refine hp_run_sound hp_co V_mo_corner C (fun _ _ _ _ _ _ _ hq => hq) [] 30 _ _ _ _ _ _ _ ?_
    refine Exists.intro _ (And.intro hC1.1 ?_)
    refine Exists.intro 256 (Exists.intro _ (And.intro hC1.2.1.2.2.1 (And.intro (in_nI (by omega) (by decide)) ?_)))
    rw [nI_clamp (show 16 * p + s_k s p < 2 ^ 31 by omega), lN_j (show x < 2 ^ 64 by omega), upd_nI, CA_upd _ hk]
    refine Exists.intro _ (And.intro hC2.1 ?_)
    refine Exists.intro 256 (Exists.intro _ (And.intro hC2.2.1.2.2.2.1 (And.intro (in_nI (by omega) (by decide)) ?_)))
    rw [nI_clamp (show 16 * p + s_k s p < 2 ^ 31 by omega), lN_j (show y < 2 ^ 64 by omega), upd_nI, CA_upd _ hk]
    refine Exists.intro _ (And.intro hC3.1 ?_)
    refine Exists.intro .int (Exists.intro 16 (Exists.intro _ (And.intro (Or.inl rfl) (And.intro hC3.2.1.2.1 (And.intro (in_nI hp16 (by decide)) ?_)))))
    refine Exists.intro 16 (Exists.intro _ (And.intro hC3.2.1.2.1 (And.intro (in_nI hp16 (by decide)) ?_)))
    rw [nI_clamp (show p < 2 ^ 31 by omega), show nI (s_k s p) + hp_c 1 = nI (s_k s p + 1) from nI_1 _, upd_nI]
    exact And.intro rfl (And.intro rfl (And.intro rfl ⟨hxM_set (hxM_set (hxM_set hx1 _ (by omega)) _ (by omega)) _ (by omega), _, rfl, hC4⟩))
