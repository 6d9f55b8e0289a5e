/-! the reference: keep, op 0 to 3 and its guards -/
def moD (l : Launch) (Y : hp_Y) (av : List Value) (s : St) (sp : Nat → Nat → Bool) : Prop := ∀ h cd, moS h s cd → hp_M l Y (.ref 75 :: av) h false 0 0 (fun r h' => r = .inl (some (.int (nI (s_B s + s_m s)))) ∧ hxM h h' ∧ ∀ R, (∀ y x, y < 64 → x < 64 → bb (R y) x = sp x y) → moS h' (St' (s_B s) (s_m s + 1) (s_n s) (s_c s) (s_lay s) (s_k s) (s_X s) (s_Y s) (updR (s_D s) (s_m s) R)) (nI 0))
/-- the first y rows of layer m put -/
def kpF (D : Nat → Nat → Int64) (m : Nat) (R : Nat → Int64) (y q : Nat) : Int64 := if q / 64 = m ∧ q % 64 < y then R (q % 64) else daF D q
theorem kpF_0 (D : Nat → Nat → Int64) (m : Nat) (R : Nat → Int64) : kpF D m R 0 = daF D := funext fun q => if_neg (fun e => Nat.not_lt_zero _ e.2)
theorem kpF_s (D : Nat → Nat → Int64) (m : Nat) (R : Nat → Int64) {y : Nat} (hy : y < 64) : vp_updL (kpF D m R y) (64 * m + y) (R y) = kpF D m R (y + 1) := by
  funext q
  unfold vp_updL kpF
  by_cases e : q = 64 * m + y
  · rw [if_pos e, if_pos (by omega), show q % 64 = y by omega]
  · rw [if_neg e]
    by_cases e2 : q / 64 = m ∧ q % 64 < y
    · rw [if_pos e2, if_pos (by omega)]
    · rw [if_neg e2, if_neg (by omega)]
theorem kpF_64 (D : Nat → Nat → Int64) (m : Nat) (R R' : Nat → Int64) (h : ∀ y, y < 64 → R y = R' y) : kpF D m R 64 = daF (updR D m R') := by
  funext q
  unfold kpF daF updR
  by_cases e : q / 64 = m
  · rw [if_pos ⟨e, Nat.mod_lt _ (by decide)⟩, if_pos e, h _ (Nat.mod_lt _ (by decide))]
  · rw [if_neg (fun c => e c.1), if_neg e]
set_option maxRecDepth 20000 in
theorem c_mo_keep (l : Launch) (h : hp_H) (s : St) (u : moT) (R : Nat → Int64) (hO : stOK s) (hm : s_m s < 24) (hC : moC h s u) (hR : h[83]? = some (LA 64 R)) :
    hp_M l Y_mo_keep [.ref 75] h false 0 0 (fun r h' => r = .inl (some (.int (nI (s_B s + s_m s)))) ∧ hxM h h' ∧ ∀ R', (∀ y, y < 64 → R y = R' y) → moC h' (St' (s_B s) (s_m s + 1) (s_n s) (s_c s) (s_lay s) (s_k s) (s_X s) (s_Y s) (updR (s_D s) (s_m s) R')) u) := by
  refine hp_start (T := T_mo_keep) (by decide) rfl (fun σ => Nat.le_of_ble_eq_true rfl) (fun G C => ?_)
  have k80 := hC.2.1.2.2.2.2
  have key : ∀ (m y : Nat), y + m = 64 → hp_W G 2 [(0, .ref 75), (1, .int (nI y))] [] (h.set 80 (LA 1536 (kpF (s_D s) (s_m s) R y))) false 0 0 := by
    intro m
    induction m with
    | zero =>
      intro y hy
      have e : y = 64 := by omega
      subst e
      have hCm : ∀ R', (∀ y, y < 64 → R y = R' y) → moC (h.set 80 (LA 1536 (kpF (s_D s) (s_m s) R 64))) (St' (s_B s) (s_m s) (s_n s) (s_c s) (s_lay s) (s_k s) (s_X s) (s_Y s) (updR (s_D s) (s_m s) R')) u := fun R' hR' => by
        rw [kpF_64 _ _ _ R' hR']
        exact moC_80 hC _
      have k75 := (hCm R (fun _ _ => rfl)).1
      refine hp_run_sound hp_co V_mo_keep C (fun _ _ _ _ _ _ _ hq => hq) [2] 24 _ _ _ _ _ _ _ ?_
      refine And.intro (fun c => ?_) (fun c => absurd (nI_le (Nat.le_refl 64) (by decide)) c)
      refine Exists.intro _ (And.intro k75 ?_)
      refine And.intro (Or.inl rfl) (Exists.intro _ (And.intro k75 (And.intro (Nat.le_of_ble_eq_true rfl) (And.intro rfl (And.intro rfl ?_)))))
      refine Exists.intro _ (And.intro (by rw [hq_get k75]) ?_)
      refine Exists.intro _ (And.intro (by rw [hq_get k75]) ?_)
      refine And.intro rfl (And.intro rfl ⟨?_, ?_, fun R' hR' => ?_⟩)
      · show (Sum.inl (some (Value.int (nI (s_B s) + (nI (s_m s) + 1) - 1))) : hp_R) = _
        rw [nI_1, nI_add, show nI (s_B s + (s_m s + 1)) - 1 = nI (s_B s + s_m s) from pk_sub (b := 1) (by omega)]
      · exact hxM_set (hxM_set (hxM_rf h) _ (by omega)) _ (by omega)
      · have hC2 := moC_set (hCm R' hR') (St' (s_B s) (s_m s + 1) (s_n s) (s_c s) (s_lay s) (s_k s) (s_X s) (s_Y s) (updR (s_D s) (s_m s) R')) u (hCm R' hR').2.1
        unfold mo75 MO at hC2
        rw [show nI (s_m (St' (s_B s) (s_m s + 1) (s_n s) (s_c s) (s_lay s) (s_k s) (s_X s) (s_Y s) (updR (s_D s) (s_m s) R'))) = nI (s_m s) + hp_c 1 from (nI_1 _).symm] at hC2
        exact hC2
    | succ m ih =>
      intro y hy
      have hW := ih (y + 1) (by omega)
      rw [← nI_1 y, ← kpF_s _ _ _ (show y < 64 by omega)] at hW
      have k75 : (h.set 80 (LA 1536 (kpF (s_D s) (s_m s) R y)))[75]? = some (mo75 s u) := by rw [hq_ne (by decide)]; exact hC.1
      refine hp_run_sound hp_co V_mo_keep C (fun _ _ _ _ _ _ _ hq => hq) [2] 24 _ _ _ _ _ _ _ ?_
      refine And.intro (fun c => absurd c (nI_ge (b := 64) (by omega) (by decide))) (fun c => ?_)
      refine Exists.intro _ (And.intro k75 ?_)
      refine Exists.intro _ (And.intro k75 ?_)
      refine Exists.intro _ (And.intro k75 ?_)
      refine Exists.intro 64 (Exists.intro R (And.intro (by rw [hq_ne (by decide)]; exact hR) (And.intro (in64 (by omega)) ?_)))
      rw [cl64 (show y < 64 by omega)]
      have e1 : hp_c 64 * nI (s_m s) + nI y = nI (64 * s_m s + y) := by
        rw [← nI_add, ← pk_mul]
        rfl
      refine Exists.intro 1536 (Exists.intro _ (And.intro (hq_get k80) (And.intro (show vp_in (hp_c 64 * nI (s_m s) + nI y) 1536 from by rw [e1]; exact in_nI (by omega) (by decide)) ?_)))
      rw [hq_set, e1, nI_clamp (show 64 * s_m s + y < 2 ^ 31 by omega)]
      exact hW
  have h0 := key 64 0 (by omega)
  rw [kpF_0, hq_self k80] at h0
  refine hp_run_sound hp_co V_mo_keep C (fun _ _ _ _ _ _ _ hq => hq) [2] 4 _ _ _ _ _ _ _ ?_
  exact hp_W_dirty h0
set_option maxRecDepth 20000 in
theorem m_op_48 (l : Launch) (s : St) (u : moT) {h : hp_H} (hC : moC h s u) (c : Nat) (hc : 0 < c) (hc2 : c < 4) (w a b : Int32) {G : hp_G} (C : hp_ctx T_mo_op Y_mo_op l false 0 0 (fun r h' => r = .inl (some (.int 0)) ∧ hxM h h' ∧ moS h' s (nI c)) G) : hp_W G 48 [(0, .ref 75), (1, .int w), (2, .int a), (3, .int b)] [.int (nI c), .ref 75] h true 0 0 := by
  refine hp_run_sound hp_co V_mo_op C (fun _ _ _ _ _ _ _ hq => hq) [60] 20 _ _ _ _ _ _ _ ?_
  refine And.intro (Or.inl rfl) (Exists.intro _ (And.intro hC.1 (And.intro (Nat.le_of_ble_eq_true rfl) (And.intro rfl (And.intro rfl ?_)))))
  refine Exists.intro _ (And.intro (hq_get hC.1) ?_)
  refine And.intro (fun q => absurd q (nI_nle hc (by omega))) (fun q => ?_)
  exact And.intro rfl (And.intro rfl (And.intro rfl ⟨hxM_75 h _, _, rfl, moC_cd hC (nI c)⟩))
theorem lay_de {s : St} {L : Nat} (hO : stOK s) (hL : L < s_B s + s_m s) : decide (¬ nI L < 0 ∧ ¬ nI (s_B s + s_m s) ≤ nI L) = true := decide_eq_true (lay_ok hO hL)
theorem lay_no {s : St} {x : Int32} (h : x < 0 ∨ nI (s_B s + s_m s) ≤ x) : decide (¬ x < 0 ∧ ¬ nI (s_B s + s_m s) ≤ x) = false := decide_eq_false (fun e => by rcases h with q | q; exact e.1 q; exact e.2 q)
set_option maxRecDepth 20000 in
theorem m_op_1 (l : Launch) (s : St) (w a b : Int32) (hab : (a < 0 ∨ nI (s_B s + s_m s) ≤ a) ∨ (b < 0 ∨ nI (s_B s + s_m s) ≤ b)) : moM l Y_mo_op [.int w, .int a, .int b] s 1 (.int 0) s := by
  rintro h cd ⟨u, rfl, hC⟩
  refine hp_start (T := T_mo_op) (by decide) rfl (fun σ => Nat.le_of_ble_eq_true rfl) (fun G C => ?_)
  have t48 := m_op_48 l s u hC 1 (by decide) (by decide) w a b C
  refine hp_run_sound hp_co V_mo_op C (fun _ _ _ _ _ _ _ hq => hq) [21, 48] 14 _ _ _ _ _ _ _ ?_
  refine And.intro ⟨3, _, hC.1, rfl⟩ ?_
  refine ic_P (c_mo_isLayer l h s u a hC.1) (Nat.le_refl _) (Nat.le_refl _) ?_
  by_cases h1 : a < 0 ∨ nI (s_B s + s_m s) ≤ a
  · rw [lay_no h1]
    exact And.intro (fun _ => t48) (fun q => absurd rfl q)
  · rw [show decide (¬ a < 0 ∧ ¬ nI (s_B s + s_m s) ≤ a) = true from decide_eq_true ⟨fun q => h1 (Or.inl q), fun q => h1 (Or.inr q)⟩]
    refine And.intro (fun q => absurd q (by decide)) (fun q => ?_)
    refine And.intro ⟨3, _, hC.1, rfl⟩ ?_
    refine ic_P (c_mo_isLayer l h s u b hC.1) (Nat.le_refl _) (Nat.le_refl _) ?_
    rw [lay_no (hab.resolve_left h1)]
    exact And.intro (fun q => absurd rfl q) (fun _ => t48)
/-- both layers are there -/
theorem m_op_21 (l : Launch) (s : St) (u : moT) (w : Int32) (A B : Nat) (hO : stOK s) (hA : A < s_B s + s_m s) (hB : B < s_B s + s_m s) {h : hp_H} (hC : moC h s u) {Q : hp_R → hp_H → Prop} {G : hp_G} (C : hp_ctx T_mo_op Y_mo_op l false 0 0 Q G) (hi : hp_W G 21 [(0, .ref 75), (1, .int w), (2, .int (nI A)), (3, .int (nI B))] [.ref 75] h true 0 0) : hp_W G 0 [(0, .ref 75), (1, .int w), (2, .int (nI A)), (3, .int (nI B))] [] h true 0 0 := by
  refine hp_run_sound hp_co V_mo_op C (fun _ _ _ _ _ _ _ hq => hq) [21, 48] 14 _ _ _ _ _ _ _ ?_
  refine And.intro ⟨3, _, hC.1, rfl⟩ ?_
  refine ic_P (c_mo_isLayer l h s u _ hC.1) (Nat.le_refl _) (Nat.le_refl _) ?_
  rw [lay_de hO hA]
  refine And.intro (fun q => absurd q (by decide)) (fun q => ?_)
  refine And.intro ⟨3, _, hC.1, rfl⟩ ?_
  refine ic_P (c_mo_isLayer l h s u _ hC.1) (Nat.le_refl _) (Nat.le_refl _) ?_
  rw [lay_de hO hB]
  exact And.intro (fun q => hi) (fun q => absurd q (by decide))
set_option maxRecDepth 20000 in
theorem m_op_2 (l : Launch) (s : St) (w : Int32) (A B : Nat) (hO : stOK s) (hA : A < s_B s + s_m s) (hB : B < s_B s + s_m s) (hm : s_m s = 24) : moM l Y_mo_op [.int w, .int (nI A), .int (nI B)] s 2 (.int 0) s := by
  rintro h cd ⟨u, rfl, hC⟩
  refine hp_start (T := T_mo_op) (by decide) rfl (fun σ => Nat.le_of_ble_eq_true rfl) (fun G C => ?_)
  refine m_op_21 l s u w A B hO hA hB hC C ?_
  have t48 := m_op_48 l s u hC 2 (by decide) (by decide) w (nI A) (nI B) C
  refine hp_run_sound hp_co V_mo_op C (fun _ _ _ _ _ _ _ hq => hq) [34, 48] 14 _ _ _ _ _ _ _ ?_
  refine Exists.intro _ (And.intro hC.1 ?_)
  exact And.intro (fun q => absurd (congrArg nI hm) q) (fun _ => t48)
set_option maxRecDepth 20000 in
theorem m_op_3 (l : Launch) (s : St) (w : Int32) (A B : Nat) (hO : stOK s) (hA : A < s_B s + s_m s) (hB : B < s_B s + s_m s) (hm : s_m s < 24) (hw : w < 0 ∨ 5 < w) : moM l Y_mo_op [.int w, .int (nI A), .int (nI B)] s 3 (.int 0) s := by
  rintro h cd ⟨u, rfl, hC⟩
  refine hp_start (T := T_mo_op) (by decide) rfl (fun σ => Nat.le_of_ble_eq_true rfl) (fun G C => ?_)
  refine m_op_21 l s u w A B hO hA hB hC C ?_
  have t48 := m_op_48 l s u hC 3 (by decide) (by decide) w (nI A) (nI B) C
  refine hp_run_sound hp_co V_mo_op C (fun _ _ _ _ _ _ _ hq => hq) [47, 48] 14 _ _ _ _ _ _ _ ?_
  refine Exists.intro _ (And.intro hC.1 ?_)
  refine And.intro (fun _ => ?_) (fun q => absurd ((nI_eq (b := 24) (by omega) (by decide)).mp q) (by omega))
  refine And.intro (fun _ => t48) (fun q => And.intro (fun q2 => ?_) (fun _ => t48))
  rcases hw with e | e
  · exact absurd e q
  · exact absurd e (Int32.not_lt.mpr q2)
/-- op with good arguments, up to 60 -/
theorem m_op_60 (l : Launch) (s : St) (u : moT) (w A B : Nat) (hO : stOK s) (hA : A < s_B s + s_m s) (hB : B < s_B s + s_m s) (hm : s_m s < 24) (hw : w ≤ 5) {h : hp_H} (hC : moC h s u) {Q : hp_R → hp_H → Prop} {G : hp_G} (C : hp_ctx T_mo_op Y_mo_op l false 0 0 Q G)
    (hi : ∀ (h3 : hp_H) (f1 f2 : Nat → Int64), moC h3 s (0, u.2) → h3[81]? = some (LA 64 f1) → h3[82]? = some (LA 64 f2) → shw s A f1 → shw s B f2 → hxM h h3 → hp_W G 72 [(0, .ref 75), (1, .int (nI w)), (2, .int (nI A)), (3, .int (nI B))] [] h3 false 0 0) : hp_W G 0 [(0, .ref 75), (1, .int (nI w)), (2, .int (nI A)), (3, .int (nI B))] [] h true 0 0 := by
  refine m_op_21 l s u (nI w) A B hO hA hB hC C ?_
  have t60 : ∀ h1, moC h1 s (0, u.2) → hxM h h1 → hp_W G 60 [(0, .ref 75), (1, .int (nI w)), (2, .int (nI A)), (3, .int (nI B))] [] h1 false 0 0 := by
    intro h1 hC1 hx1
    refine hp_run_sound hp_co V_mo_op C (fun _ _ _ _ _ _ _ hq => hq) [72] 14 _ _ _ _ _ _ _ ?_
    refine And.intro ⟨3, _, hC1.1, rfl⟩ ?_
    refine ic_Q (c_mo_load l h1 s (0, u.2) A true hO hA hC1) (Nat.le_refl _) (Nat.le_refl _) (fun r h2 hq => ?_)
    obtain ⟨rfl, f1, rfl, s1⟩ := hq
    obtain ⟨z1, k1⟩ := mw_at hC1.2.2 (lw_or true)
    have hC2 := moC_81 hC1 f1 (lw_or true)
    refine And.intro ⟨3, _, hC2.1, rfl⟩ ?_
    refine ic_Q (c_mo_load l _ s (0, u.2) B false hO hB hC2) (Nat.le_refl _) (Nat.le_refl _) (fun r h3 hq => ?_)
    obtain ⟨rfl, f2, rfl, s2⟩ := hq
    have hC3 := moC_81 hC2 f2 (lw_or false)
    obtain ⟨z2, k2⟩ := mw_at hC2.2.2 (lw_or false)
    exact hi _ f1 f2 hC3 (by show ((h1.set 81 (LA 64 f1)).set 82 (LA 64 f2))[81]? = _; rw [hq_ne (by decide)]; exact hq_get k1) (hq_get k2) s1 s2 (hxM_set (hxM_set hx1 _ (show 75 ≤ 81 ∧ 81 < 89 by omega)) _ (show 75 ≤ 82 ∧ 82 < 89 by omega))
  refine hp_run_sound hp_co V_mo_op C (fun _ _ _ _ _ _ _ hq => hq) [60] 24 _ _ _ _ _ _ _ ?_
  refine Exists.intro _ (And.intro hC.1 ?_)
  refine And.intro (fun _ => ?_) (fun q => absurd ((nI_eq (b := 24) (by omega) (by decide)).mp q) (by omega))
  refine And.intro (fun q => absurd q (nI_pos (by omega))) (fun q => And.intro (fun q2 => ?_) (fun q2 => absurd (nI_le (b := 5) hw (by decide)) q2))
  refine And.intro (Or.inl rfl) (Exists.intro _ (And.intro hC.1 (And.intro (Nat.le_of_ble_eq_true rfl) (And.intro rfl (And.intro rfl ?_)))))
  refine Exists.intro _ (And.intro (hq_get hC.1) ?_)
  refine And.intro (fun q => ?_) (fun q => absurd (show (0 : Int32) ≤ 0 by decide) q)
  exact t60 _ (moC_cd hC 0) (hxM_75 h _)
/-- op's end: what lies in out is kept -/
theorem m_op_287 (l : Launch) (s : St) (u : Nat × Int32 × Int32 × Int32 × Int32) (hO : stOK s) (hm : s_m s < 24) (sp : Nat → Nat → Bool) {h h4 : hp_H} (R0 : Nat → Int64) (hC : moC h4 s (0, u)) (hR : h4[83]? = some (LA 64 R0)) (hsp : ∀ y x, y < 64 → x < 64 → bb (R0 y) x = sp x y) (hx4 : hxM h h4) {G : hp_G} (w a b v : Int32) (C : hp_ctx T_mo_op Y_mo_op l false 0 0 (fun r h' => r = .inl (some (.int (nI (s_B s + s_m s)))) ∧ hxM h h' ∧ ∀ R, (∀ y x, y < 64 → x < 64 → bb (R y) x = sp x y) → moS h' (St' (s_B s) (s_m s + 1) (s_n s) (s_c s) (s_lay s) (s_k s) (s_X s) (s_Y s) (updR (s_D s) (s_m s) R)) (nI 0)) G) :
    hp_W G 287 [(0, .ref 75), (1, .int w), (2, .int a), (3, .int b), (4, .int v)] [] h4 false 0 0 := by
  refine hp_run_sound hp_co V_mo_op C (fun _ _ _ _ _ _ _ hq => hq) [] 4 _ _ _ _ _ _ _ ?_
  refine And.intro ⟨3, _, hC.1, rfl⟩ ?_
  refine ic_Q (c_mo_keep l h4 s (0, u) R0 hO hm hC hR) (Nat.le_refl _) (Nat.le_refl _) (fun r h5 hq => ?_)
  obtain ⟨rfl, hx5, hq⟩ := hq
  exact And.intro rfl (And.intro rfl ⟨rfl, hxM_tr hx4 hx5, fun R hR2 => ⟨_, rfl, hq R (fun y hy => bb_ext (fun x hx2 => by rw [hsp y x hy hx2, hR2 y x hy hx2]))⟩⟩)
set_option maxRecDepth 20000 in
theorem m_op_0 (l : Launch) (s : St) (w A B : Nat) (hO : stOK s) (hA : A < s_B s + s_m s) (hB : B < s_B s + s_m s) (hm : s_m s < 24) (hw : w < 4) (F E : Nat → Int64) (hF : shw s A F) (hE : shw s B E) :
    moD l Y_mo_op [.int (nI w), .int (nI A), .int (nI B)] s (fun x y => bb (xcb w (F y) (E y)) x) := by
  rintro h cd ⟨u, rfl, hC⟩
  refine hp_start (T := T_mo_op) (by decide) rfl (fun σ => Nat.le_of_ble_eq_true rfl) (fun G C => ?_)
  refine m_op_60 l s u w A B hO hA hB hm (by omega) hC C (fun h3 f1 f2 hC3 k1 k2 s1 s2 hx3 => ?_)
  obtain ⟨e0, k83⟩ := mw_at hC3.2.2 (Or.inr (Or.inr rfl))
  have key : ∀ (m y : Nat) (g : Nat → Int64), y + m = 64 → (∀ v i, v < y → i < 64 → bb (g v) i = bb (xcb w (F v) (E v)) i) → hp_W G 84 [(0, .ref 75), (1, .int (nI w)), (2, .int (nI A)), (3, .int (nI B)), (4, .int (nI y))] [] (h3.set 83 (LA 64 g)) false 0 0 := by
    intro m
    induction m with
    | zero =>
      intro y g hy hg
      have e : y = 64 := by omega
      subst e
      refine hp_run_sound hp_co V_mo_op C (fun _ _ _ _ _ _ _ hq => hq) [287] 6 _ _ _ _ _ _ _ ?_
      refine And.intro (fun c => ?_) (fun c => absurd (nI_le (Nat.le_refl 64) (by decide)) c)
      exact m_op_287 l s u.2 hO hm _ g (moC_81 hC3 g (Or.inr (Or.inr rfl))) (hq_get k83) hg (hxM_set hx3 _ (by omega)) _ _ _ _ C
    | succ m ih =>
      intro y g hy hg
      have hC4 := moC_81 hC3 g (Or.inr (Or.inr rfl))
      have j1 : (h3.set 83 (LA 64 g))[81]? = some (LA 64 f1) := by rw [hq_ne (by decide)]; exact k1
      have j2 : (h3.set 83 (LA 64 g))[82]? = some (LA 64 f2) := by rw [hq_ne (by decide)]; exact k2
      have j3 : (h3.set 83 (LA 64 g))[83]? = some (LA 64 g) := hq_get k83
      have t187 : ∀ row, row = xcb w (f1 y) (f2 y) → hp_W G 187 [(0, .ref 75), (1, .int (nI w)), (2, .int (nI A)), (3, .int (nI B)), (4, .int (nI y))] [.long row] (h3.set 83 (LA 64 g)) false 0 0 := by
        intro row hrow
        have hW := ih (y + 1) (vp_updL g y row) (by omega) (fun v i hv hi => by
          by_cases e : v = y
          · rw [e, pk_uLs, hrow, row_eq (rw_of s1 hF) (show y < 64 by omega), row_eq (rw_of s2 hE) (show y < 64 by omega)]
          · rw [pk_uLn e]
            exact hg v i (by omega) hi)
        rw [← nI_1 y] at hW
        refine hp_run_sound hp_co V_mo_op C (fun _ _ _ _ _ _ _ hq => hq) [84] 20 _ _ _ _ _ _ _ ?_
        refine And.intro (fun q => absurd q (by decide)) (fun _ => And.intro (fun _ => ?_) (fun q => absurd (nI_le (b := 3) (by omega) (by decide)) q))
        refine Exists.intro _ (And.intro hC4.1 ?_)
        refine Exists.intro 64 (Exists.intro g (And.intro j3 (And.intro (in64 (by omega)) ?_)))
        rw [cl64 (show y < 64 by omega), hq_set]
        exact hp_W_pick [0, 1, 2, 3, 4] hW
      refine hp_run_sound hp_co V_mo_op C (fun _ _ _ _ _ _ _ hq => hq) [187] 40 _ _ _ _ _ _ _ ?_
      refine And.intro (fun c => absurd c (nI_ge (b := 64) (by omega) (by decide))) (fun c => ?_)
      have go : ∀ i : Nat, (nI w = nI i ↔ w = i) ∨ ¬ i < 4 := fun i => by
        by_cases hi : i < 4
        · exact Or.inl (nI_eq (by omega) (by omega))
        · exact Or.inr hi
      refine And.intro (fun q0 => ?_) (fun q0 => ?_)
      · refine And.intro (fun q1 => ?_) (fun q1 => ?_)
        · refine And.intro (fun q2 => ?_) (fun q2 => ?_)
          · refine And.intro (fun q3 => ?_) (fun q3 => ?_)
            · exfalso
              have a0 : w ≠ 0 := fun e => q0 (congrArg nI e)
              have a1 : w ≠ 1 := fun e => q1 (congrArg nI e)
              have a2 : w ≠ 2 := fun e => q2 (congrArg nI e)
              have a3 : w ≠ 3 := fun e => q3 (congrArg nI e)
              omega
            · have e : w = 3 := (nI_eq (b := 3) (by omega) (by decide)).mp q3
              refine Exists.intro _ (And.intro hC4.1 ?_)
              refine Exists.intro 64 (Exists.intro f1 (And.intro j1 (And.intro (in64 (by omega)) ?_)))
              refine Exists.intro _ (And.intro hC4.1 ?_)
              refine Exists.intro 64 (Exists.intro f2 (And.intro j2 (And.intro (in64 (by omega)) ?_)))
              rw [cl64 (show y < 64 by omega)]
              exact t187 _ (by rw [e]; rfl)
          · have e : w = 2 := (nI_eq (b := 2) (by omega) (by decide)).mp q2
            refine Exists.intro _ (And.intro hC4.1 ?_)
            refine Exists.intro 64 (Exists.intro f1 (And.intro j1 (And.intro (in64 (by omega)) ?_)))
            refine Exists.intro _ (And.intro hC4.1 ?_)
            refine Exists.intro 64 (Exists.intro f2 (And.intro j2 (And.intro (in64 (by omega)) ?_)))
            rw [cl64 (show y < 64 by omega)]
            exact t187 _ (by rw [e]; rfl)
        · have e : w = 1 := (nI_eq (b := 1) (by omega) (by decide)).mp q1
          refine Exists.intro _ (And.intro hC4.1 ?_)
          refine Exists.intro 64 (Exists.intro f1 (And.intro j1 (And.intro (in64 (by omega)) ?_)))
          refine Exists.intro _ (And.intro hC4.1 ?_)
          refine Exists.intro 64 (Exists.intro f2 (And.intro j2 (And.intro (in64 (by omega)) ?_)))
          rw [cl64 (show y < 64 by omega)]
          exact t187 _ (by rw [e]; rfl)
      · have e : w = 0 := (nI_eq (b := 0) (by omega) (by decide)).mp q0
        refine Exists.intro _ (And.intro hC4.1 ?_)
        refine Exists.intro 64 (Exists.intro f1 (And.intro j1 (And.intro (in64 (by omega)) ?_)))
        refine Exists.intro _ (And.intro hC4.1 ?_)
        refine Exists.intro 64 (Exists.intro f2 (And.intro j2 (And.intro (in64 (by omega)) ?_)))
        rw [cl64 (show y < 64 by omega)]
        exact t187 _ (by rw [e]; rfl)
  have h0 := key 64 0 e0 (by omega) (fun v i hv => absurd hv (Nat.not_lt_zero _))
  rw [hq_self k83] at h0
  refine hp_run_sound hp_co V_mo_op C (fun _ _ _ _ _ _ _ hq => hq) [84] 10 _ _ _ _ _ _ _ ?_
  refine And.intro (fun _ => h0) (fun q => absurd (nI_le (b := 3) (by omega) (by decide)) q)
