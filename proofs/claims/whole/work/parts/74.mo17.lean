/-! the reference: edge -/
theorem isE_eq {f F : Nat → Int64} (h : rwN f = rwN F) {k : Int32} {y x : Nat} : isE f k y x ↔ isE F k y x := by
  unfold isE
  rw [lyn_eq h, xls_eq h]
theorem isE_uq {F : Nat → Int64} {k : Int32} {y x y' x' : Nat} (h1 : isE F k y x) (h2 : isE F k y' x') : y = y' ∧ x = x' := by
  obtain ⟨a1, a2, a3, a4⟩ := h1
  obtain ⟨b1, b2, b3, b4⟩ := h2
  have c1 : cn (bb (xls F y)) x < cn (bb (xls F y)) 64 := cn_in a2 a3
  have c2 : cn (bb (xls F y')) x' < cn (bb (xls F y')) 64 := cn_in b2 b3
  have d1 := lyn_s F y
  have d2 := lyn_s F y'
  have l1 := lyn_le F (y := y + 1) (by omega)
  have l2 := lyn_le F (y := y' + 1) (by omega)
  have e := (nI_eq (by omega) (by omega)).mp (a4.symm.trans b4)
  have ey : y = y' := by
    rcases Nat.lt_trichotomy y y' with q | q | q
    · have : lyn F (y + 1) ≤ lyn F y' := sm_mono _ q
      omega
    · exact q
    · have : lyn F (y' + 1) ≤ lyn F y := sm_mono _ q
      omega
  subst ey
  exact ⟨rfl, cn_inj a3 b3 (by omega)⟩
theorem isE_lt {F : Nat → Int64} {k : Int32} {y x : Nat} (h : isE F k y x) : ∃ n, n < lyn F 65 ∧ k = nI n := by
  obtain ⟨b1, b2, b3, b4⟩ := h
  have c2 : cn (bb (xls F y)) x < cn (bb (xls F y)) 64 := cn_in b2 b3
  have d2 := lyn_s F y
  have : lyn F (y + 1) ≤ lyn F 65 := sm_mono _ (by omega)
  exact ⟨_, by omega, b4⟩
set_option maxRecDepth 20000 in
theorem m_edge_1a (l : Launch) (s : St) (x k w : Int32) (hx0 : (x < 0 ∨ nI (s_B s + s_m s) ≤ x) ∨ k < 0 ∨ (w < 0 ∨ 5 ≤ w)) : moM l Y_mo_edge [.int x, .int k, .int w] s 1 (.int 0) s := by
  rintro h cd ⟨u, rfl, hC⟩
  refine hp_start (T := T_mo_edge) (by decide) rfl (fun σ => Nat.le_of_ble_eq_true rfl) (fun G C => ?_)
  have t27 : hp_W G 27 [(0, .ref 75), (1, .int x), (2, .int k), (3, .int w)] [.int 1, .ref 75] h true 0 0 := by
    refine hp_run_sound hp_co V_mo_edge C (fun _ _ _ _ _ _ _ hq => hq) [39] 20 _ _ _ _ _ _ _ ?_
    refine And.intro (Or.inl rfl) (Exists.intro _ (And.intro hC.1 (And.intro (Nat.le_of_ble_eq_true rfl) (And.intro rfl (And.intro rfl ?_)))))
    refine Exists.intro _ (And.intro (hq_get hC.1) ?_)
    refine And.intro (fun q => absurd q (by decide)) (fun q => ?_)
    exact And.intro rfl (And.intro rfl (And.intro rfl ⟨hxM_75 h _, _, rfl, moC_cd hC 1⟩))
  refine hp_run_sound hp_co V_mo_edge C (fun _ _ _ _ _ _ _ hq => hq) [26, 27] 20 _ _ _ _ _ _ _ ?_
  refine And.intro ⟨3, _, hC.1, rfl⟩ ?_
  refine ic_P (c_mo_isLayer l h s u x hC.1) (Nat.le_refl _) (Nat.le_refl _) ?_
  by_cases h1 : x < 0 ∨ nI (s_B s + s_m s) ≤ x
  · rw [lay_no h1]
    exact And.intro (fun _ => t27) (fun q => absurd rfl q)
  · rw [show decide (¬ x < 0 ∧ ¬ nI (s_B s + s_m s) ≤ x) = true from decide_eq_true ⟨fun q => h1 (Or.inl q), fun q => h1 (Or.inr q)⟩]
    refine And.intro (fun q => absurd q (by decide)) (fun q => ?_)
    refine And.intro (fun _ => t27) (fun q1 => And.intro (fun _ => t27) (fun q2 => And.intro (fun q3 => ?_) (fun _ => t27)))
    exfalso
    rcases hx0.resolve_left h1 with e | e | e
    · exact q1 e
    · exact q2 e
    · have a1 := Int32.le_iff_toInt_le.mp (show w ≤ 4 from q3)
      have a2 := Int32.le_iff_toInt_le.mp e
      have e1 : (4 : Int32).toInt = 4 := rfl
      have e2 : (5 : Int32).toInt = 5 := rfl
      omega
/-- edge with good arguments, up to the first search -/
theorem m_edge_39 (l : Launch) (s : St) (u : moT) (L K w : Nat) (hO : stOK s) (hL : L < s_B s + s_m s) (hK : K < 2 ^ 31) (hw : w < 5) {h : hp_H} (hC : moC h s u) {Q : hp_R → hp_H → Prop} {G : hp_G} (C : hp_ctx T_mo_edge Y_mo_edge l false 0 0 Q G)
    (hi : ∀ (h3 : hp_H) (f : Nat → Int64), moC h3 s (0, u.2) → h3[81]? = some (LA 64 f) → shw s L f → hxM h h3 → hp_W G 45 [(0, .ref 75), (1, .int (nI L)), (2, .int (nI K)), (3, .int (nI w))] [] h3 false 0 0) : hp_W G 0 [(0, .ref 75), (1, .int (nI L)), (2, .int (nI K)), (3, .int (nI w))] [] h true 0 0 := by
  have t39 : ∀ h1, moC h1 s (0, u.2) → hxM h h1 → hp_W G 39 [(0, .ref 75), (1, .int (nI L)), (2, .int (nI K)), (3, .int (nI w))] [] h1 false 0 0 := by
    intro h1 hC1 hx1
    refine hp_run_sound hp_co V_mo_edge C (fun _ _ _ _ _ _ _ hq => hq) [45] 8 _ _ _ _ _ _ _ ?_
    refine And.intro ⟨3, _, hC1.1, rfl⟩ ?_
    refine ic_Q (c_mo_load l h1 s (0, u.2) L true hO hL hC1) (Nat.le_refl _) (Nat.le_refl _) (fun r h2 hq => ?_)
    obtain ⟨rfl, f1, rfl, s1⟩ := hq
    obtain ⟨y1, k1⟩ := mw_at hC1.2.2 (lw_or true)
    exact hi _ f1 (moC_81 hC1 f1 (lw_or true)) (hq_get k1) s1 (hxM_set (a := 81) hx1 _ (by omega))
  refine hp_run_sound hp_co V_mo_edge C (fun _ _ _ _ _ _ _ hq => hq) [39] 24 _ _ _ _ _ _ _ ?_
  refine And.intro ⟨3, _, hC.1, rfl⟩ ?_
  refine ic_P (c_mo_isLayer l h s u _ hC.1) (Nat.le_refl _) (Nat.le_refl _) ?_
  rw [lay_de hO hL]
  refine And.intro (fun q => absurd q (by decide)) (fun q => ?_)
  refine And.intro (fun q => absurd q (nI_pos hK)) (fun _ => And.intro (fun q => absurd q (nI_pos (by omega))) (fun _ => And.intro (fun _ => ?_) (fun q => absurd (nI_le (b := 4) (by omega) (by decide)) q)))
  refine And.intro (Or.inl rfl) (Exists.intro _ (And.intro hC.1 (And.intro (Nat.le_of_ble_eq_true rfl) (And.intro rfl (And.intro rfl ?_)))))
  refine Exists.intro _ (And.intro (hq_get hC.1) ?_)
  refine And.intro (fun q => ?_) (fun q => absurd (show (0 : Int32) ≤ 0 by decide) q)
  exact t39 _ (moC_cd hC 0) (hxM_75 h _)
theorem side_eq (F : Nat → Int64) {y x : Nat} (hx2 : x < 64) (hs : bb (xls F y) x = true) : ly F y x = if bb (xab F y) x then 1 else -1 := by
  have hn := ((edge_iff F y hx2).mp hs).1
  rw [bb_xab F y hx2]
  unfold ly at hn ⊢
  cases h1 : bb (rwN F y) x <;> cases h2 : bb (rwB F y) x <;> rw [h1, h2] at hn
  · exact absurd rfl hn
  · rfl
  · rfl
  · exact absurd rfl hn
theorem xlf_0 (F : Nat → Int64) (y x : Nat) : xlf F y x 0 = nI x := rfl
theorem xlf_1 (F : Nat → Int64) (y x : Nat) : xlf F y x 1 = nI y := rfl
theorem xlf_2 (F : Nat → Int64) (y x : Nat) : xlf F y x 2 = nI (eTo F y x) := rfl
theorem xlf_3 (F : Nat → Int64) (y x : Nat) : xlf F y x 3 = nI y := rfl
theorem xlf_4 (F : Nat → Int64) (y x : Nat) : xlf F y x 4 = if bb (xab F y) x then 1 else -1 := rfl
set_option maxRecDepth 20000 in
theorem m_edge_l (l : Launch) (s : St) (L w y x : Nat) (hO : stOK s) (hL : L < s_B s + s_m s) (hw : w < 5) (F : Nat → Int64) (hF : shw s L F) (hy : y ≤ 64) (hx2 : x < 64) (hb : bb (xls F y) x = true) : moM l Y_mo_edge [.int (nI L), .int (nI (lyn F y + cn (bb (xls F y)) x)), .int (nI w)] s 0 (.int (xlf F y x w)) s := by
  rintro h cd ⟨u, rfl, hC⟩
  have l1 := lyn_le F (y := y) (by omega)
  have l2 := cn_le (bb (xls F y)) x
  refine hp_start (T := T_mo_edge) (by decide) rfl (fun σ => Nat.le_of_ble_eq_true rfl) (fun G C => ?_)
  refine m_edge_39 l s u L _ w hO hL (by omega) hw hC C (fun h3 f hC3 k81 s1 hx3 => ?_)
  have hr := rw_of s1 hF
  have hE : isE f (nI (lyn F y + cn (bb (xls F y)) x)) y x := (isE_eq hr).mpr ⟨hy, hx2, hb, rfl⟩
  refine hp_run_sound hp_co V_mo_edge C (fun _ _ _ _ _ _ _ hq => hq) [89] 20 _ _ _ _ _ _ _ ?_
  refine And.intro ⟨3, _, hC3.1, rfl⟩ ?_
  refine ic_Q (c_mo_findEdge l h3 s (0, u.2) _ true f hC3 k81) (Nat.le_refl _) (Nat.le_refl _) (fun r h4 hq => ?_)
  rcases hq with ⟨y', x', q1, rfl, q2, q3⟩ | ⟨q1, q2, q3⟩
  · obtain ⟨rfl, rfl⟩ := isE_uq hE (show isE f _ y' x' from q1)
    have hx4 := hxM_hx hx3 q2 (by decide)
    refine And.intro (fun q => absurd q (by decide)) (fun _ => ?_)
    refine And.intro (fun _ => ?_) (fun q => absurd q (by decide))
    have eS : ly (fE true f) y x = if bb (xab F y) x then 1 else -1 := by
      have : ly f y x = ly F y x := by unfold ly; rw [hr, rwB_eq hr]
      rw [show ly (fE true f) y x = ly f y x from rfl, this, side_eq F hx2 hb]
    have eT : eTo (fE true f) y x = eTo F y x := by
      show eTo f y x = eTo F y x
      unfold eTo
      rw [xab_eq hr, xbe_eq hr]
    rw [eS, eT] at q3
    refine hp_run_sound hp_co V_mo_edge C (fun _ _ _ _ _ _ _ hq => hq) [] 20 _ _ _ _ _ _ _ ?_
    have fin : ∀ v, v = xlf F y x w → (Sum.inl (some (Value.int v)) : hp_R) = .inl (some (.int (xlf F y x w))) := fun v e => by rw [e]
    refine And.intro (fun c4 => ?_) (fun c4 => ?_)
    · refine And.intro (fun q => absurd q (by decide)) (fun _ => ?_)
      refine And.intro (fun c0 => ?_) (fun c0 => ?_)
      · refine And.intro (fun c2 => ?_) (fun c2 => ?_)
        · have n4 : w ≠ 4 := fun e => c4 (congrArg nI e)
          have n0 : w ≠ 0 := fun e => c0 (congrArg nI e)
          have n2 : w ≠ 2 := fun e => c2 (congrArg nI e)
          have e13 : w = 1 ∨ w = 3 := by omega
          refine Exists.intro _ (And.intro q3.1 ?_)
          refine And.intro rfl (And.intro rfl ⟨fin _ ?_, hx4, _, rfl, q3⟩)
          rcases e13 with e | e
          · subst e; rfl
          · subst e; rfl
        · have e : w = 2 := (nI_eq (b := 2) (by omega) (by decide)).mp c2
          subst e
          refine Exists.intro _ (And.intro q3.1 ?_)
          exact And.intro rfl (And.intro rfl ⟨fin _ rfl, hx4, _, rfl, q3⟩)
      · have e : w = 0 := (nI_eq (b := 0) (by omega) (by decide)).mp c0
        subst e
        refine Exists.intro _ (And.intro q3.1 ?_)
        exact And.intro rfl (And.intro rfl ⟨fin _ rfl, hx4, _, rfl, q3⟩)
    · have e : w = 4 := (nI_eq (b := 4) (by omega) (by decide)).mp c4
      subst e
      refine Exists.intro _ (And.intro q3.1 ?_)
      exact And.intro rfl (And.intro rfl ⟨fin _ rfl, hx4, _, rfl, q3⟩)
  · exact absurd hE (q1 y x)
/-- edge from the second search on -/
theorem m_edge_70 (l : Launch) (s : St) (u : moT) (L K w : Nat) (hO : stOK s) (hL : L < s_B s + s_m s) (hK : K < 2 ^ 31) (hw : w < 5) (F : Nat → Int64) (hF : shw s L F) (hno : lyn F 65 ≤ K) {h : hp_H} (hC : moC h s u) {Q : hp_R → hp_H → Prop} {G : hp_G} (C : hp_ctx T_mo_edge Y_mo_edge l false 0 0 Q G)
    (hit : ∀ y x h4 v, isE (xtu F) (nI (K - lyn F 65)) y x → moC h4 s (0, v, nI y, nI x, nI (eTo (xtu F) y x), ly (xtu F) y x) → hxM h h4 → hp_W G 89 [(0, .ref 75), (1, .int (nI L)), (2, .int (nI K)), (3, .int (nI w)), (4, .int (nI (lyn F 65))), (5, .int 0)] [] h4 false 0 0)
    (miss : (∀ y x, ¬ isE (xtu F) (nI (K - lyn F 65)) y x) → ∀ h4 v, moC h4 s (0, v) → hxM h h4 → hp_W G 82 [(0, .ref 75), (1, .int (nI L)), (2, .int (nI K)), (3, .int (nI w)), (4, .int (nI (lyn F 65))), (5, .int 0)] [] h4 false 0 0) : hp_W G 0 [(0, .ref 75), (1, .int (nI L)), (2, .int (nI K)), (3, .int (nI w))] [] h true 0 0 := by
  have l1 := lyn_le F (y := 65) (by omega)
  refine m_edge_39 l s u L _ w hO hL hK hw hC C (fun h3 f hC3 k81 s1 hx3 => ?_)
  have hr := rw_of s1 hF
  have hrt := xtu_eq hr
  refine hp_run_sound hp_co V_mo_edge C (fun _ _ _ _ _ _ _ hq => hq) [82, 89] 30 _ _ _ _ _ _ _ ?_
  refine And.intro ⟨3, _, hC3.1, rfl⟩ ?_
  refine ic_Q (c_mo_findEdge l h3 s (0, u.2) _ true f hC3 k81) (Nat.le_refl _) (Nat.le_refl _) (fun r h4 hq => ?_)
  rcases hq with ⟨y', x', q1, _⟩ | ⟨q1, rfl, rfl⟩
  · exfalso
    obtain ⟨n, n1, n2⟩ := isE_lt ((isE_eq hr).mp (show isE f _ y' x' from q1))
    have := (nI_eq hK (by omega)).mp n2
    omega
  · have el : lyn (fE true f) 65 = lyn F 65 := by show lyn f 65 = lyn F 65; rw [lyn_eq hr]
    rw [el]
    refine And.intro (fun _ => ?_) (fun q => absurd (nI_pos' (by omega)) q)
    refine And.intro (fun q => absurd rfl q) (fun _ => ?_)
    have ek : nI K - nI (lyn F 65) = nI (K - lyn F 65) := pk_sub hno
    refine And.intro ⟨3, _, hC3.1, rfl⟩ ?_
    rw [ek]
    refine ic_Q (c_mo_findEdge l h4 s (0, u.2) _ false f hC3 k81) (Nat.le_refl _) (Nat.le_refl _) (fun r h5 hq => ?_)
    rcases hq with ⟨y', x', q1, rfl, q2, q3⟩ | ⟨q1, rfl, rfl⟩
    · have hE2 : isE (xtu F) (nI (K - lyn F 65)) y' x' := (isE_eq hrt).mp q1
      refine And.intro (fun _ => ?_) (fun q => absurd (by decide) q)
      have eS : ly (fE false f) y' x' = ly (xtu F) y' x' := by show ly (xtu f) y' x' = _; unfold ly; rw [hrt, rwB_eq hrt]
      have eT : eTo (fE false f) y' x' = eTo (xtu F) y' x' := by
        show eTo (xtu f) y' x' = _
        unfold eTo
        rw [xab_eq hrt, xbe_eq hrt]
      rw [eS, eT] at q3
      exact hit y' x' h5 _ hE2 q3 (hxM_hx hx3 q2 (by decide))
    · refine And.intro (fun q => absurd q (nI_pos (by have := lyn_le (xtu f) (y := 65) (by omega); show lyn (xtu f) 65 < 2 ^ 31; omega))) (fun _ => ?_)
      exact miss (fun y x hE => q1 y x ((isE_eq hrt).mpr hE)) h5 _ hC3 hx3
set_option maxRecDepth 20000 in
theorem m_edge_s (l : Launch) (s : St) (L w y x : Nat) (hO : stOK s) (hL : L < s_B s + s_m s) (hw : w < 5) (F : Nat → Int64) (hF : shw s L F) (hy : y ≤ 64) (hx2 : x < 64) (hb : bb (xls (xtu F) y) x = true) : moM l Y_mo_edge [.int (nI L), .int (nI (lyn F 65 + (lyn (xtu F) y + cn (bb (xls (xtu F) y)) x))), .int (nI w)] s 0 (.int (xlf (xtu F) y x (tuf w))) s := by
  rintro h cd ⟨u, rfl, hC⟩
  have l0 := lyn_le F (y := 65) (by omega)
  have l1 := lyn_le (xtu F) (y := y) (by omega)
  have l2 := cn_le (bb (xls (xtu F) y)) x
  have ek : lyn F 65 + (lyn (xtu F) y + cn (bb (xls (xtu F) y)) x) - lyn F 65 = lyn (xtu F) y + cn (bb (xls (xtu F) y)) x := by omega
  refine hp_start (T := T_mo_edge) (by decide) rfl (fun σ => Nat.le_of_ble_eq_true rfl) (fun G C => ?_)
  have hE : isE (xtu F) (nI (lyn F 65 + (lyn (xtu F) y + cn (bb (xls (xtu F) y)) x) - lyn F 65)) y x := ⟨hy, hx2, hb, by rw [ek]⟩
  refine m_edge_70 l s u L _ w hO hL (by omega) hw F hF (by omega) hC C (fun y' x' h4 v hE2 q3 hx4 => ?_) (fun hn => absurd hE (hn y x))
  obtain ⟨rfl, rfl⟩ := isE_uq hE hE2
  rw [side_eq (xtu F) hx2 hb] at q3
  have fin : ∀ v, v = xlf (xtu F) y x (tuf w) → (Sum.inl (some (Value.int v)) : hp_R) = .inl (some (.int (xlf (xtu F) y x (tuf w)))) := fun v e => by rw [e]
  refine hp_run_sound hp_co V_mo_edge C (fun _ _ _ _ _ _ _ hq => hq) [] 20 _ _ _ _ _ _ _ ?_
  refine And.intro (fun c4 => ?_) (fun c4 => ?_)
  · refine And.intro (fun _ => ?_) (fun q => absurd rfl q)
    refine And.intro (fun c1 => ?_) (fun c1 => ?_)
    · refine And.intro (fun c3 => ?_) (fun c3 => ?_)
      · have n4 : w ≠ 4 := fun e => c4 (congrArg nI e)
        have n1 : w ≠ 1 := fun e => c1 (congrArg nI e)
        have n3 : w ≠ 3 := fun e => c3 (congrArg nI e)
        have e02 : w = 0 ∨ w = 2 := by omega
        refine Exists.intro _ (And.intro q3.1 ?_)
        refine And.intro rfl (And.intro rfl ⟨fin _ ?_, hx4, _, rfl, q3⟩)
        rcases e02 with e | e
        · subst e; rfl
        · subst e; rfl
      · have e : w = 3 := (nI_eq (b := 3) (by omega) (by decide)).mp c3
        subst e
        refine Exists.intro _ (And.intro q3.1 ?_)
        exact And.intro rfl (And.intro rfl ⟨fin _ rfl, hx4, _, rfl, q3⟩)
    · have e : w = 1 := (nI_eq (b := 1) (by omega) (by decide)).mp c1
      subst e
      refine Exists.intro _ (And.intro q3.1 ?_)
      exact And.intro rfl (And.intro rfl ⟨fin _ rfl, hx4, _, rfl, q3⟩)
  · have e : w = 4 := (nI_eq (b := 4) (by omega) (by decide)).mp c4
    subst e
    refine Exists.intro _ (And.intro q3.1 ?_)
    exact And.intro rfl (And.intro rfl ⟨fin _ rfl, hx4, _, rfl, q3⟩)
set_option maxRecDepth 20000 in
theorem m_edge_1k (l : Launch) (s : St) (L w K : Nat) (hO : stOK s) (hL : L < s_B s + s_m s) (hw : w < 5) (hK : K < 2 ^ 31) (F : Nat → Int64) (hF : shw s L F) (hk : lyn F 65 + lyn (xtu F) 65 ≤ K) : moM l Y_mo_edge [.int (nI L), .int (nI K), .int (nI w)] s 1 (.int 0) s := by
  rintro h cd ⟨u, rfl, hC⟩
  refine hp_start (T := T_mo_edge) (by decide) rfl (fun σ => Nat.le_of_ble_eq_true rfl) (fun G C => ?_)
  refine m_edge_70 l s u L _ w hO hL hK hw F hF (by omega) hC C (fun y' x' h4 v hE2 q3 hx4 => ?_) (fun _ h4 v hC4 hx4 => ?_)
  · exfalso
    obtain ⟨n, n1, n2⟩ := isE_lt hE2
    have l0 := lyn_le (xtu F) (y := 65) (by omega)
    have := (nI_eq (by omega) (by omega)).mp n2
    omega
  · refine hp_run_sound hp_co V_mo_edge C (fun _ _ _ _ _ _ _ hq => hq) [] 8 _ _ _ _ _ _ _ ?_
    refine And.intro (Or.inl rfl) (Exists.intro _ (And.intro hC4.1 (And.intro (Nat.le_of_ble_eq_true rfl) (And.intro rfl (And.intro rfl ?_)))))
    exact And.intro rfl (And.intro rfl (And.intro rfl ⟨hxM_set hx4 _ (by omega), _, rfl, moC_cd hC4 1⟩))
