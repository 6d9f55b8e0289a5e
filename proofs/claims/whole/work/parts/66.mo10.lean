/-! the reference: at -/
theorem moC_2 {h : hp_H} {s : St} {u v : moT} (hC : moC h s u) (cd : Int32) (he : (cd, u.2) = v) : moC (h.set 75 (mo75 s v)) s v := by
  subst he
  exact moC_cd hC cd
/-- at from 31: the code becomes 1 -/
theorem m_at_31 (l : Launch) (s : St) (u : moT) {h h1 : hp_H} (hC : moC h1 s u) (hx1 : hxM h h1) (a b c d : Int32) {G : hp_G} (C : hp_ctx T_mo_at Y_mo_at l false 0 0 (fun r h' => r = .inl (some (.long 0)) ∧ hxM h h' ∧ moS h' s (nI 1)) G) : hp_W G 31 [(0, .ref 75), (1, .int a), (2, .int b), (3, .int c), (4, .int d)] [] h1 false 0 0 := by
  refine hp_run_sound hp_co V_mo_at C (fun _ _ _ _ _ _ _ hq => hq) [] 8 _ _ _ _ _ _ _ ?_
  refine And.intro (Or.inl rfl) (Exists.intro _ (And.intro hC.1 (And.intro (Nat.le_of_ble_eq_true rfl) (And.intro rfl (And.intro rfl ?_)))))
  exact And.intro rfl (And.intro rfl (And.intro rfl ⟨hxM_set hx1 _ (by omega), _, rfl, moC_cd hC 1⟩))
set_option maxRecDepth 20000 in
theorem m_at_1l (l : Launch) (s : St) (x t k w : Int32) (hx0 : x < 0 ∨ nI (s_B s + s_m s) ≤ x) : moM l Y_mo_at [.int x, .int t, .int k, .int w] s 1 (.long 0) s := by
  rintro h cd ⟨u, rfl, hC⟩
  refine hp_start (T := T_mo_at) (by decide) rfl (fun σ => Nat.le_of_ble_eq_true rfl) (fun G C => ?_)
  refine hp_run_sound hp_co V_mo_at C (fun _ _ _ _ _ _ _ hq => hq) [31] 6 _ _ _ _ _ _ _ ?_
  refine And.intro ⟨3, _, hC.1, rfl⟩ ?_
  refine ic_P (c_mo_isReady_no l h s u x hx0 hC) (Nat.le_refl _) (Nat.le_refl _) ?_
  refine And.intro (fun _ => ?_) (fun q => absurd rfl q)
  exact m_at_31 l s _ (moC_cd hC 1) (hxM_75 h _) x t k w C
set_option maxRecDepth 20000 in
theorem m_at_1t (l : Launch) (s : St) (L : Nat) (t k w : Int32) (hO : stOK s) (hL : L < s_B s + s_m s) (F : Nat → Int64) (hF : shw s L F) (fi : Nat → Bool) (hfi : isF F 0 fi) (ht : (t < 0 ∨ nI (cn fi 4096) ≤ t) ∨ (w < 0 ∨ 2 ≤ w)) : moM l Y_mo_at [.int (nI L), .int t, .int k, .int w] s 1 (.long 0) s := by
  rintro h cd ⟨u, rfl, hC⟩
  refine hp_start (T := T_mo_at) (by decide) rfl (fun σ => Nat.le_of_ble_eq_true rfl) (fun G C => ?_)
  refine hp_run_sound hp_co V_mo_at C (fun _ _ _ _ _ _ _ hq => hq) [31, 38] 20 _ _ _ _ _ _ _ ?_
  refine And.intro ⟨3, _, hC.1, rfl⟩ ?_
  refine ic_Q (c_mo_isReady l h s u L hO hL F hF fi hfi hC) (Nat.le_refl _) (Nat.le_refl _) (fun r h2 hq => ?_)
  obtain ⟨rfl, hx2, f, g, hR⟩ := hq
  have t31 := m_at_31 l s _ hR.1 hx2 (nI L) t k w C
  refine And.intro (fun q => absurd q (by decide)) (fun _ => And.intro (fun _ => t31) (fun q1 => ?_))
  refine Exists.intro _ (And.intro hR.1.1 ?_)
  refine And.intro (fun _ => t31) (fun q2 => And.intro (fun _ => t31) (fun q3 => And.intro (fun q4 => ?_) (fun _ => t31)))
  exfalso
  rcases ht with (e | e) | (e | e)
  · exact q1 e
  · exact q2 e
  · exact q3 e
  · have h1 : w ≤ 1 := q4
    have h2 := Int32.le_iff_toInt_le.mp h1
    have h3 := Int32.le_iff_toInt_le.mp e
    have e1 : (1 : Int32).toInt = 1 := rfl
    have e2 : (2 : Int32).toInt = 2 := rfl
    omega
/-- where the k-th corner lies -/
def isK (R : Nat → Int64) (k : Int32) (y x : Nat) : Prop := y ≤ 64 ∧ x ≤ 64 ∧ cnr R y x = true ∧ k = nI (cyn R y + cn (cnr R y) x)
/-- the walk over the corners -/
theorem m_at_walk (l : Launch) (s : St) (u : moT) (L t ax : Nat) (k : Int32) (hax : ax < 2) {h2 : hp_H} (g : Nat → Int32) (R : Nat → Int64) (hC : moC h2 s u) (hg : h2[84]? = some (IA 4096 g)) (hR : ∀ y x, y < 64 → x < 64 → (g (64 * y + x) = nI t ↔ bb (R y) x = true)) {Q : hp_R → hp_H → Prop} {G : hp_G} (C : hp_ctx T_mo_at Y_mo_at l false 0 0 Q G)
    (hit : ∀ y x, isK R k y x → Q (.inl (some (.long (nI (if ax = 1 then y else x)).toInt64))) h2)
    (miss : (∀ y x, ¬ isK R k y x) → Q (.inl (some (.long 0))) (h2.set 75 (mo75 s (1, u.2)))) :
    hp_W G 38 [(0, .ref 75), (1, .int (nI L)), (2, .int (nI t)), (3, .int k), (4, .int (nI ax))] [] h2 false 0 0 := by
  have outer : ∀ (m y : Nat), y + m = 65 → (∀ y' x', y' < y → ¬ isK R k y' x') → hp_W G 44 [(0, .ref 75), (1, .int (nI L)), (2, .int (nI t)), (3, .int k), (4, .int (nI ax)), (5, .int (k - nI (cyn R y))), (6, .int (nI y))] [] h2 false 0 0 := by
    intro m
    induction m with
    | zero =>
      intro y hy hn
      have e : y = 65 := by omega
      subst e
      refine hp_run_sound hp_co V_mo_at C (fun _ _ _ _ _ _ _ hq => hq) [44] 12 _ _ _ _ _ _ _ ?_
      refine And.intro (fun c => ?_) (fun c => absurd (nI_lt (a := 64) (by decide) (by decide)) c)
      refine And.intro (Or.inl rfl) (Exists.intro _ (And.intro hC.1 (And.intro (Nat.le_of_ble_eq_true rfl) (And.intro rfl (And.intro rfl ?_)))))
      refine And.intro rfl (And.intro rfl (miss (fun y x hk => ?_)))
      exact hn y x (by have := hk.1; omega) hk
    | succ m ih =>
      intro y hy hn
      have inner : ∀ (m' x : Nat), x + m' = 65 → (∀ x', x' < x → ¬ isK R k y x') → hp_W G 54 [(0, .ref 75), (1, .int (nI L)), (2, .int (nI t)), (3, .int k), (4, .int (nI ax)), (5, .int (k - nI (cyn R y + cn (cnr R y) x))), (6, .int (nI y)), (7, .int (nI x))] [] h2 false 0 0 := by
        intro m'
        induction m' with
        | zero =>
          intro x hx2 hn2
          have e : x = 65 := by omega
          subst e
          have hW := ih (y + 1) (by omega) (fun y' x' h1 hk => by
            rcases Nat.lt_or_ge y' y with c | c
            · exact hn y' x' c hk
            · have e : y' = y := by omega
              subst e
              exact hn2 x' (by have := hk.2.1; omega) hk)
          rw [cyn_s, ← nI_1 y] at hW
          refine hp_run_sound hp_co V_mo_at C (fun _ _ _ _ _ _ _ hq => hq) [44] 8 _ _ _ _ _ _ _ ?_
          refine And.intro (fun c => ?_) (fun c => absurd (nI_lt (a := 64) (by decide) (by decide)) c)
          exact hp_W_pick [0, 1, 2, 3, 4, 5, 6] hW
        | succ m' im =>
          intro x hx2 hn2
          have hW := im (x + 1) (by omega)
          rw [cn_s, ← nI_1 x] at hW
          refine hp_run_sound hp_co V_mo_at C (fun _ _ _ _ _ _ _ hq => hq) [54] 24 _ _ _ _ _ _ _ ?_
          refine And.intro (fun c => absurd c (nI_nlt (a := 64) (by omega) (by decide))) (fun c => ?_)
          refine And.intro ⟨3, _, hC.1, rfl⟩ ?_
          refine ic_P (c_mo_isCorner l h2 s u t x y (by omega) (by omega) g R hC.1 hg hR) (Nat.le_refl _) (Nat.le_refl _) ?_
          cases hc : cnr R y x with
          | false =>
            refine And.intro (fun _ => ?_) (fun q => absurd rfl q)
            rw [hc] at hW
            exact hW (fun x' h1 hk => by
              rcases Nat.lt_or_ge x' x with c | c
              · exact hn2 x' c hk
              · have e : x' = x := by omega
                subst e
                rw [hk.2.2.1] at hc
                cases hc)
          | true =>
            refine And.intro (fun q => absurd q (by decide)) (fun _ => ?_)
            refine And.intro (fun q => ?_) (fun q => ?_)
            · rw [hc] at hW
              have hW2 := hW (fun x' h1 hk => by
                rcases Nat.lt_or_ge x' x with c | c
                · exact hn2 x' c hk
                · have e : x' = x := by omega
                  subst e
                  exact q ((sub_0 _ _).mpr hk.2.2.2))
              rw [show cyn R y + (cn (cnr R y) x + true.toNat) = cyn R y + cn (cnr R y) x + 1 from rfl, ← sub_m1] at hW2
              exact hW2
            · have hk : isK R k y x := ⟨by omega, by omega, hc, (sub_0 _ _).mp q⟩
              have hh := hit y x hk
              refine And.intro (fun q2 => ?_) (fun q2 => ?_)
              · have e : ¬ ax = 0 := fun e => q2 (by rw [e]; rfl)
                rw [if_pos (show ax = 1 by omega)] at hh
                exact And.intro rfl (And.intro rfl hh)
              · have e : ax = 0 := (nI_eq (b := 0) (by omega) (by decide)).mp q2
                rw [if_neg (show ¬ ax = 1 by omega)] at hh
                exact And.intro rfl (And.intro rfl hh)
      have h0 := inner 65 0 (by omega) (fun x' h1 => absurd h1 (Nat.not_lt_zero _))
      refine hp_run_sound hp_co V_mo_at C (fun _ _ _ _ _ _ _ hq => hq) [54] 8 _ _ _ _ _ _ _ ?_
      refine And.intro (fun c => absurd c (nI_nlt (a := 64) (by omega) (by decide))) (fun c => ?_)
      exact h0
  have h0 := outer 65 0 (by omega) (fun y' x' h1 => absurd h1 (Nat.not_lt_zero _))
  rw [show k - nI (cyn R 0) = k from Int32.sub_zero k] at h0
  refine hp_run_sound hp_co V_mo_at C (fun _ _ _ _ _ _ _ hq => hq) [44] 8 _ _ _ _ _ _ _ ?_
  exact h0
/-- at with a good layer, shape and axis, up to the walk -/
theorem m_at_38 (l : Launch) (s : St) (u : moT) (L ax a : Nat) (k : Int32) (hO : stOK s) (hL : L < s_B s + s_m s) (hax : ax < 2) (F R : Nat → Int64) (hF : shw s L F) (fi : Nat → Bool) (hfi : isF F 0 fi) (ha : a < 4096) (a1 : fi a = true) (hR : shR F a R) {h : hp_H} (hC : moC h s u) {Q : hp_R → hp_H → Prop} {G : hp_G} (C : hp_ctx T_mo_at Y_mo_at l false 0 0 Q G)
    (hit : ∀ y x h2 v, isK R k y x → moC h2 s (0, v) → hxM h h2 → Q (.inl (some (.long (nI (if ax = 1 then y else x)).toInt64))) h2)
    (miss : ∀ h2 v, (∀ y x, ¬ isK R k y x) → moC h2 s (1, v) → hxM h h2 → Q (.inl (some (.long 0))) h2) :
    hp_W G 0 [(0, .ref 75), (1, .int (nI L)), (2, .int (nI (cn fi a))), (3, .int k), (4, .int (nI ax))] [] h true 0 0 := by
  have hb := cn_4096 fi
  have ha4 : cn fi a < cn fi 4096 := cn_in ha a1
  refine hp_run_sound hp_co V_mo_at C (fun _ _ _ _ _ _ _ hq => hq) [31, 38] 20 _ _ _ _ _ _ _ ?_
  refine And.intro ⟨3, _, hC.1, rfl⟩ ?_
  refine ic_Q (c_mo_isReady l h s u L hO hL F hF fi hfi hC) (Nat.le_refl _) (Nat.le_refl _) (fun r h2 hq => ?_)
  obtain ⟨rfl, hx2, f, g, hRd⟩ := hq
  have hr := rw_of hRd.2.2.1 hF
  refine And.intro (fun q => absurd q (by decide)) (fun _ => And.intro (fun q => absurd q (nI_pos (by omega))) (fun _ => ?_))
  refine Exists.intro _ (And.intro hRd.1.1 ?_)
  refine And.intro (fun q => absurd q (nI_ge ha4 hb)) (fun _ => And.intro (fun q => absurd q (nI_pos (by omega))) (fun _ => And.intro (fun _ => ?_) (fun q => absurd (nI_le (b := 1) (by omega) (by decide)) q)))
  refine m_at_walk l s _ L (cn fi a) ax k hax g R hRd.1 hRd.2.2.2.1 (shR_lb (isF_eq hr hfi) hRd.2.2.2.2 ha a1 (shR_F hr hR)) C (fun y x hk => hit y x h2 _ hk hRd.1 hx2) (fun hn => miss _ _ hn (moC_cd hRd.1 1) (hxM_set hx2 _ (by omega)))
theorem cyn_lt {R : Nat → Int64} {y x : Nat} (hy : y ≤ 64) (hx2 : x ≤ 64) (h : cnr R y x = true) : cyn R y + cn (cnr R y) x < cyn R (y + 1) := by
  rw [cyn_s]
  exact Nat.add_lt_add_left (cn_in (by omega) h) _
theorem isK_uq {R : Nat → Int64} {k : Int32} {y x y' x' : Nat} (h1 : isK R k y x) (h2 : isK R k y' x') : y = y' ∧ x = x' := by
  obtain ⟨a1, a2, a3, a4⟩ := h1
  obtain ⟨b1, b2, b3, b4⟩ := h2
  have c1 := cyn_lt a1 a2 a3
  have c2 := cyn_lt b1 b2 b3
  have l1 := cyn_le R (y := y + 1) (by omega)
  have l2 := cyn_le R (y := y' + 1) (by omega)
  have e := (nI_eq (by omega) (by omega)).mp (a4.symm.trans b4)
  have ey : y = y' := by
    rcases Nat.lt_trichotomy y y' with q | q | q
    · have : cyn R (y + 1) ≤ cyn R y' := sm_mono _ q
      omega
    · exact q
    · have : cyn R (y' + 1) ≤ cyn R y := sm_mono _ q
      omega
  subst ey
  exact ⟨rfl, cn_inj a3 b3 (by omega)⟩
set_option maxRecDepth 20000 in
theorem m_at_0 (l : Launch) (s : St) (L ax a y x : Nat) (hO : stOK s) (hL : L < s_B s + s_m s) (hax : ax < 2) (F R : Nat → Int64) (hF : shw s L F) (fi : Nat → Bool) (hfi : isF F 0 fi) (ha : a < 4096) (a1 : fi a = true) (hR : shR F a R) (hy : y ≤ 64) (hx2 : x ≤ 64) (hb : cnr R y x = true) :
    moM l Y_mo_at [.int (nI L), .int (nI (cn fi a)), .int (nI (cyn R y + cn (cnr R y) x)), .int (nI ax)] s 0 (.long (nI (if ax = 1 then y else x)).toInt64) s := by
  rintro h cd ⟨u, rfl, hC⟩
  refine hp_start (T := T_mo_at) (by decide) rfl (fun σ => Nat.le_of_ble_eq_true rfl) (fun G C => ?_)
  refine m_at_38 l s u L ax a _ hO hL hax F R hF fi hfi ha a1 hR hC C (fun y' x' h2 v hk hC2 hxh => ?_) (fun h2 v hn _ _ => absurd ⟨hy, hx2, hb, rfl⟩ (hn y x))
  obtain ⟨rfl, rfl⟩ := isK_uq ⟨hy, hx2, hb, rfl⟩ hk
  exact ⟨rfl, hxh, _, rfl, hC2⟩
set_option maxRecDepth 20000 in
theorem m_at_1k (l : Launch) (s : St) (L ax a : Nat) (k : Int32) (hO : stOK s) (hL : L < s_B s + s_m s) (hax : ax < 2) (F R : Nat → Int64) (hF : shw s L F) (fi : Nat → Bool) (hfi : isF F 0 fi) (ha : a < 4096) (a1 : fi a = true) (hR : shR F a R) (hk : k < 0 ∨ nI (cyn R 65) ≤ k) :
    moM l Y_mo_at [.int (nI L), .int (nI (cn fi a)), .int k, .int (nI ax)] s 1 (.long 0) s := by
  rintro h cd ⟨u, rfl, hC⟩
  refine hp_start (T := T_mo_at) (by decide) rfl (fun σ => Nat.le_of_ble_eq_true rfl) (fun G C => ?_)
  refine m_at_38 l s u L ax a _ hO hL hax F R hF fi hfi ha a1 hR hC C (fun y' x' h2 v hk2 hC2 hxh => ?_) (fun h2 v _ hC2 hxh => ⟨rfl, hxh, _, rfl, hC2⟩)
  exfalso
  obtain ⟨b1, b2, b3, b4⟩ := hk2
  have c2 := cyn_lt b1 b2 b3
  have c3 : cyn R (y' + 1) ≤ cyn R 65 := sm_mono _ (by omega)
  have l2 := cyn_le R (y := 65) (by omega)
  rcases hk with e | e
  · rw [b4] at e
    exact nI_pos (by omega) e
  · rw [b4] at e
    exact nI_ge (show cyn R y' + cn (cnr R y') x' < cyn R 65 by omega) (by omega) e
