/-! the reference: isLine, trapezoid -/
theorem ob_eq (f : Nat → Int64) {y : Nat} (hy : y < 64) : ob (fun x => !(bb (rwN f y) x == bb (rwB f y) x)) 64 = !decide (f y = rwB f y) := by
  have e : rwN f y = f y := if_pos hy
  rw [e]
  by_cases c : f y = rwB f y
  · rw [decide_eq_true c, ← c]
    cases hz : ob (fun x => !(bb (f y) x == bb (f y) x)) 64 with
    | false => rfl
    | true =>
      obtain ⟨i, _, h2⟩ := (ob_iff _ _).mp hz
      simp at h2
  · rw [decide_eq_false c]
    refine (ob_iff _ _).mpr (Classical.byContradiction (fun hn => c (bb_ext (fun i hi => ?_))))
    cases hz : (bb (f y) i == bb (rwB f y) i) with
    | true => exact beq_iff_eq.mp hz
    | false => exact absurd ⟨i, hi, show (!(bb (f y) i == bb (rwB f y) i)) = true by rw [hz]; rfl⟩ hn
set_option maxRecDepth 20000 in
theorem c_mo_isLine (l : Launch) (h : hp_H) (s : St) (u : moT) (y : Nat) (hy : y < 64) (f : Nat → Int64) (hp : h[75]? = some (mo75 s u)) (hf : h[81]? = some (LA 64 f)) : hp_M l Y_mo_isLine [.ref 75, .int (nI y)] h true 0 0 (hq_P (.inl (some (.int (zI (!decide (f y = rwB f y)))))) h) := by
  rw [← ob_eq f hy]
  refine hp_start (T := T_mo_isLine) (by decide) rfl (fun σ => Nat.le_of_ble_eq_true rfl) (fun G C => ?_)
  have zr : ∀ b : Bool, narrow .boolean (.int (zI b)) = .int (zI b) := fun b => by cases b <;> rfl
  have key : ∀ (m x : Nat), x + m = 64 → hp_W G 4 [(0, .ref 75), (1, .int (nI y)), (2, .int (zI (ob (fun x => !(bb (rwN f y) x == bb (rwB f y) x)) x))), (3, .int (nI x))] [] h true 0 0 := by
    intro m
    induction m with
    | zero =>
      intro x hx2
      have e : x = 64 := by omega
      subst e
      refine hp_run_sound hp_co V_mo_isLine C (fun _ _ _ _ _ _ _ hq => hq) [4] 8 _ _ _ _ _ _ _ ?_
      refine And.intro (fun c => ?_) (fun c => absurd (nI_le (Nat.le_refl 64) (by decide)) c)
      exact And.intro rfl (And.intro (zr _) (And.intro rfl rfl))
    | succ m ih =>
      intro x hx2
      have hW := ih (x + 1) (by omega)
      rw [show ob (fun x => !(bb (rwN f y) x == bb (rwB f y) x)) (x + 1) = (ob (fun x => !(bb (rwN f y) x == bb (rwB f y) x)) x || !(bb (rwN f y) x == bb (rwB f y) x)) from rfl, ← nI_1 x] at hW
      generalize ob (fun x => !(bb (rwN f y) x == bb (rwB f y) x)) x = S at hW ⊢
      refine hp_run_sound hp_co V_mo_isLine C (fun _ _ _ _ _ _ _ hq => hq) [4] 20 _ _ _ _ _ _ _ ?_
      refine And.intro (fun c => absurd c (nI_ge (b := 64) (by omega) (by decide))) (fun c => ?_)
      cases S with
      | true => exact And.intro (fun _ => hW) (fun q => absurd q (by decide))
      | false =>
        refine And.intro (fun q => absurd rfl q) (fun _ => ?_)
        refine And.intro ⟨3, _, hp, rfl⟩ ?_
        refine ic_P (c_mo_lying l h s u x y (by omega) (by omega) f hp hf) (Nat.le_refl _) (Nat.le_refl _) ?_
        refine And.intro (fun q => ?_) (fun q => ?_)
        · rw [(sd_ne _ _).mp q] at hW
          exact hW
        · have q2 : (bb (rwN f y) x == bb (rwB f y) x) = false := by
            cases hz : (bb (rwN f y) x == bb (rwB f y) x) with
            | false => rfl
            | true => exact absurd ((sd_ne _ _).mpr hz) q
          rw [q2] at hW
          exact hW
  refine hp_run_sound hp_co V_mo_isLine C (fun _ _ _ _ _ _ _ hq => hq) [4] 8 _ _ _ _ _ _ _ ?_
  exact key 64 0 (by omega)
def isT (F : Nat → Int64) (k : Int32) (y x : Nat) : Prop := y < 64 ∧ x < 64 ∧ bb (bxs F y) x = true ∧ k = nI (byn F y + cn (bb (bxs F y)) x)
theorem isT_uq {F : Nat → Int64} {k : Int32} {y x y' x' : Nat} (h1 : isT F k y x) (h2 : isT F k y' x') : y = y' ∧ x = x' := by
  obtain ⟨a1, a2, a3, a4⟩ := h1
  obtain ⟨b1, b2, b3, b4⟩ := h2
  have c1 : cn (bb (bxs F y)) x < cn (bb (bxs F y)) 64 := cn_in a2 a3
  have c2 : cn (bb (bxs F y')) x' < cn (bb (bxs F y')) 64 := cn_in b2 b3
  have d1 := byn_s F y
  have d2 := byn_s F y'
  have l1 := byn_le F (y := y + 1) (by omega)
  have l2 := byn_le F (y := y' + 1) (by omega)
  have e := (nI_eq (by omega) (by omega)).mp (a4.symm.trans b4)
  have ey : y = y' := by
    rcases Nat.lt_trichotomy y y' with q | q | q
    · have : byn F (y + 1) ≤ byn F y' := sm_mono _ q
      omega
    · exact q
    · have : byn F (y' + 1) ≤ byn F y := sm_mono _ q
      omega
  subst ey
  exact ⟨rfl, cn_inj a3 b3 (by omega)⟩
theorem isT_lt {F : Nat → Int64} {k : Int32} {y x : Nat} (h : isT F k y x) : ∃ n, n < byn F 64 ∧ k = nI n := by
  obtain ⟨b1, b2, b3, b4⟩ := h
  have c2 : cn (bb (bxs F y)) x < cn (bb (bxs F y)) 64 := cn_in b2 b3
  have d2 := byn_s F y
  have : byn F (y + 1) ≤ byn F 64 := sm_mono _ (by omega)
  exact ⟨_, by omega, b4⟩
theorem isT_eq {f F : Nat → Int64} (h : rwN f = rwN F) {k : Int32} {y x : Nat} : isT f k y x ↔ isT F k y x := by
  unfold isT
  refine and_congr_right (fun hy => ?_)
  rw [bxs_eq h hy, byn_eq h (show y ≤ 64 by omega)]
theorem bxs_at (f : Nat → Int64) {y x : Nat} (hx2 : x < 64) (hn : ¬ f y = rwB f y) : bb (bxs f y) x = (bb (f y) x && !(decide (1 ≤ x) && bb (f y) (x - 1))) := by
  unfold bxs
  rw [if_neg hn, bb_xst _ hx2]
theorem xse_s (f : Nat → Int64) {y t : Nat} (ht : t < 64) : xse f y (64 - t) = if f t = f y then xse f y (64 - (t + 1)) else t := by
  have e : 64 - t = (63 - t) + 1 := by omega
  rw [e]
  show (if f (63 - (63 - t)) = f y then xse f y (63 - t) else 63 - (63 - t)) = _
  rw [show 63 - (63 - t) = t by omega, show 64 - (t + 1) = 63 - t by omega]
set_option maxRecDepth 20000 in
theorem m_trap_1a (l : Launch) (s : St) (x k w : Int32) (hx0 : (x < 0 ∨ nI (s_B s + s_m s) ≤ x) ∨ k < 0 ∨ (w < 0 ∨ 4 ≤ w)) : moM l Y_mo_trapezoid [.int x, .int k, .int w] s 1 (.int 0) s := by
  rintro h cd ⟨u, rfl, hC⟩
  refine hp_start (T := T_mo_trapezoid) (by decide) rfl (fun σ => Nat.le_of_ble_eq_true rfl) (fun G C => ?_)
  have t27 : hp_W G 27 [(0, .ref 75), (1, .int x), (2, .int k), (3, .int w)] [.int 1, .ref 75] h true 0 0 := by
    refine hp_run_sound hp_co V_mo_trapezoid C (fun _ _ _ _ _ _ _ hq => hq) [39] 20 _ _ _ _ _ _ _ ?_
    refine And.intro (Or.inl rfl) (Exists.intro _ (And.intro hC.1 (And.intro (Nat.le_of_ble_eq_true rfl) (And.intro rfl (And.intro rfl ?_)))))
    refine Exists.intro _ (And.intro (hq_get hC.1) ?_)
    refine And.intro (fun q => absurd q (by decide)) (fun q => ?_)
    exact And.intro rfl (And.intro rfl (And.intro rfl ⟨hxM_75 h _, _, rfl, moC_cd hC 1⟩))
  refine hp_run_sound hp_co V_mo_trapezoid C (fun _ _ _ _ _ _ _ hq => hq) [26, 27] 20 _ _ _ _ _ _ _ ?_
  refine And.intro ⟨3, _, hC.1, rfl⟩ ?_
  refine ic_P (c_mo_isLayer l h s u x hC.1) (Nat.le_refl _) (Nat.le_refl _) ?_
  by_cases h1 : x < 0 ∨ nI (s_B s + s_m s) ≤ x
  · rw [lay_no h1]
    exact And.intro (fun _ => t27) (fun q => absurd rfl q)
  · rw [show decide (¬ x < 0 ∧ ¬ nI (s_B s + s_m s) ≤ x) = true from decide_eq_true ⟨fun q => h1 (Or.inl q), fun q => h1 (Or.inr q)⟩]
    refine And.intro (fun q => absurd q (by decide)) (fun q => ?_)
    refine And.intro (fun _ => t27) (fun q1 => And.intro (fun _ => t27) (fun q2 => And.intro (fun q3 => ?_) (fun _ => t27)))
    exfalso
    rcases hx0.resolve_left h1 with e | e | e
    · exact q1 e
    · exact q2 e
    · have a1 := Int32.le_iff_toInt_le.mp (show w ≤ 3 from q3)
      have a2 := Int32.le_iff_toInt_le.mp e
      have e1 : (3 : Int32).toInt = 3 := rfl
      have e2 : (4 : Int32).toInt = 4 := rfl
      omega
/-- trapezoid with good arguments -/
theorem m_trap_walk (l : Launch) (s : St) (u : moT) (L K w : Nat) (hO : stOK s) (hL : L < s_B s + s_m s) (hK : K < 2 ^ 31) (hw : w < 4) (F : Nat → Int64) (hF : shw s L F) {h : hp_H} (hC : moC h s u) {Q : hp_R → hp_H → Prop} {G : hp_G} (C : hp_ctx T_mo_trapezoid Y_mo_trapezoid l false 0 0 Q G)
    (hit : ∀ y x h2 v, isT F (nI K) y x → moC h2 s (0, v) → hxM h h2 → Q (.inl (some (.int (xbf F y x w)))) h2)
    (miss : ∀ h2 v, (∀ y x, ¬ isT F (nI K) y x) → moC h2 s (1, v) → hxM h h2 → Q (.inl (some (.int 0))) h2) :
    hp_W G 0 [(0, .ref 75), (1, .int (nI L)), (2, .int (nI K)), (3, .int (nI w))] [] h true 0 0 := by
  have t39 : ∀ h1, moC h1 s (0, u.2) → hxM h h1 → hp_W G 39 [(0, .ref 75), (1, .int (nI L)), (2, .int (nI K)), (3, .int (nI w))] [] h1 false 0 0 := by
    intro h1 hC1 hx1
    refine hp_run_sound hp_co V_mo_trapezoid C (fun _ _ _ _ _ _ _ hq => hq) [51] 12 _ _ _ _ _ _ _ ?_
    refine And.intro ⟨3, _, hC1.1, rfl⟩ ?_
    refine ic_Q (c_mo_load l h1 s (0, u.2) L true hO hL hC1) (Nat.le_refl _) (Nat.le_refl _) (fun r h2 hq => ?_)
    obtain ⟨rfl, f, rfl, s1⟩ := hq
    obtain ⟨y1, k1⟩ := mw_at hC1.2.2 (lw_or true)
    have hC2 : moC (h1.set 81 (LA 64 f)) s (0, u.2) := moC_81 hC1 f (lw_or true)
    have k81 : (h1.set 81 (LA 64 f))[81]? = some (LA 64 f) := hq_get k1
    have hx2 := hxM_set (a := 81) hx1 (LA 64 f) (by omega)
    have hr := rw_of s1 hF
    show hp_W G 51 _ _ (h1.set 81 (LA 64 f)) _ _ _
    generalize h1.set 81 (LA 64 f) = h2 at hC2 k81 hx2
    have outer : ∀ (m y : Nat), y + m = 64 → (∀ y' x', y' < y → ¬ isT f (nI K) y' x') → hp_W G 51 [(0, .ref 75), (1, .int (nI L)), (2, .int (nI K)), (3, .int (nI w)), (4, .int (nI K - nI (byn f y))), (5, .int (nI y))] [] h2 false 0 0 := by
      intro m
      induction m with
      | zero =>
        intro y hy hn
        have e : y = 64 := by omega
        subst e
        refine hp_run_sound hp_co V_mo_trapezoid C (fun _ _ _ _ _ _ _ hq => hq) [51] 12 _ _ _ _ _ _ _ ?_
        refine And.intro (fun c => ?_) (fun c => absurd (nI_le (Nat.le_refl 64) (by decide)) c)
        refine And.intro (Or.inl rfl) (Exists.intro _ (And.intro hC2.1 (And.intro (Nat.le_of_ble_eq_true rfl) (And.intro rfl (And.intro rfl ?_)))))
        refine And.intro rfl (And.intro rfl (miss _ _ (fun y x hk => ?_) (moC_cd hC2 1) (hxM_set hx2 _ (by omega))))
        exact hn y x hk.1 ((isT_eq hr).mpr hk)
      | succ m ih =>
        intro y hy hn
        have hy64 : y < 64 := by omega
        have nxt : (∀ x', ¬ isT f (nI K) y x') → ∀ z : Int32, z = nI K - nI (byn f (y + 1)) → hp_W G 202 [(0, .ref 75), (1, .int (nI L)), (2, .int (nI K)), (3, .int (nI w)), (4, .int z), (5, .int (nI y))] [] h2 false 0 0 := by
          intro hn2 z hz
          have hW := ih (y + 1) (by omega) (fun y' x' h1 hk => by
            rcases Nat.lt_or_ge y' y with c | c
            · exact hn y' x' c hk
            · rw [show y' = y by omega] at hk
              exact hn2 x' hk)
          rw [← hz, ← nI_1 y] at hW
          refine hp_run_sound hp_co V_mo_trapezoid C (fun _ _ _ _ _ _ _ hq => hq) [51] 4 _ _ _ _ _ _ _ ?_
          exact hW
        refine hp_run_sound hp_co V_mo_trapezoid C (fun _ _ _ _ _ _ _ hq => hq) [76, 202] 14 _ _ _ _ _ _ _ ?_
        refine And.intro (fun c => absurd c (nI_ge (b := 64) hy64 (by decide))) (fun c => ?_)
        refine And.intro ⟨3, _, hC2.1, rfl⟩ ?_
        refine ic_P (c_mo_isLine l h2 s (0, u.2) y hy64 f hC2.1 k81) (Nat.le_refl _) (Nat.le_refl _) ?_
        by_cases hl : f y = rwB f y
        · rw [decide_eq_true hl]
          refine And.intro (fun q => absurd rfl q) (fun _ => ?_)
          have hz := bxs_no hl
          refine nxt (fun x' hk => ?_) _ (by rw [byn_s, hz, Nat.add_zero])
          have := cn_in (n := 64) hk.2.1 hk.2.2.1
          omega
        · rw [decide_eq_false hl]
          refine And.intro (fun _ => ?_) (fun q => absurd q (by decide))
          -- with the box's top known: along the row
          have row : ∀ (m' x : Nat), x + m' = 64 → (∀ x', x' < x → ¬ isT f (nI K) y x') → hp_W G 101 [(0, .ref 75), (1, .int (nI L)), (2, .int (nI K)), (3, .int (nI w)), (4, .int (nI K - nI (byn f y + cn (bb (bxs f y)) x))), (5, .int (nI y)), (6, .int (nI (xse f y (63 - y)))), (7, .int (nI x))] [] h2 false 0 0 := by
            intro m'
            induction m' with
            | zero =>
              intro x hxm hn2
              have e : x = 64 := by omega
              subst e
              refine hp_run_sound hp_co V_mo_trapezoid C (fun _ _ _ _ _ _ _ hq => hq) [202] 6 _ _ _ _ _ _ _ ?_
              refine And.intro (fun c => ?_) (fun c => absurd (nI_le (Nat.le_refl 64) (by decide)) c)
              exact hp_W_pick [0, 1, 2, 3, 4, 5] (nxt (fun x' hk => hn2 x' hk.2.1 hk) _ (by rw [byn_s]))
            | succ m' im =>
              intro x hxm hn2
              have hx64 : x < 64 := by omega
              have eb := bxs_at f hx64 hl
              have hW := im (x + 1) (by omega)
              rw [cn_s, ← nI_1 x] at hW
              have off : bb (bxs f y) x = false → hp_W G 196 [(0, .ref 75), (1, .int (nI L)), (2, .int (nI K)), (3, .int (nI w)), (4, .int (nI K - nI (byn f y + cn (bb (bxs f y)) x))), (5, .int (nI y)), (6, .int (nI (xse f y (63 - y)))), (7, .int (nI x))] [] h2 false 0 0 := fun hs => by
                rw [hs] at hW
                refine hp_run_sound hp_co V_mo_trapezoid C (fun _ _ _ _ _ _ _ hq => hq) [101] 4 _ _ _ _ _ _ _ ?_
                exact hW (fun x' h1 hk => by
                  rcases Nat.lt_or_ge x' x with c | c
                  · exact hn2 x' c hk
                  · rw [show x' = x by omega] at hk
                    rw [hk.2.2.1] at hs
                    cases hs)
              have e1 := on1_in f hx64 hy64
              have e2 := on1_L f (x := x) (y := y) (by omega) (by omega)
              rw [show rwN f y = f y from if_pos hy64] at e2
              refine hp_run_sound hp_co V_mo_trapezoid C (fun _ _ _ _ _ _ _ hq => hq) [135, 196] 20 _ _ _ _ _ _ _ ?_
              refine And.intro (fun c => absurd c (nI_ge (b := 64) hx64 (by decide))) (fun c => ?_)
              refine And.intro ⟨3, _, hC2.1, rfl⟩ ?_
              refine ic_P (c_mo_isOne l h2 s (0, u.2) (nI x) (nI y) f hC2.1 k81) (Nat.le_refl _) (Nat.le_refl _) ?_
              rw [e1]
              cases hb1 : bb (f y) x with
              | false =>
                refine And.intro (fun _ => ?_) (fun q => absurd rfl q)
                exact off (by rw [eb, hb1]; rfl)
              | true =>
                refine And.intro (fun q => absurd q (by decide)) (fun _ => ?_)
                refine And.intro ⟨3, _, hC2.1, rfl⟩ ?_
                refine ic_P (c_mo_isOne l h2 s (0, u.2) (nI x - 1) (nI y) f hC2.1 k81) (Nat.le_refl _) (Nat.le_refl _) ?_
                rw [e2]
                cases hb2 : (decide (1 ≤ x) && bb (f y) (x - 1)) with
                | true =>
                  refine And.intro (fun q => absurd q (by decide)) (fun _ => ?_)
                  exact off (by rw [eb, hb1, hb2]; rfl)
                | false =>
                  refine And.intro (fun _ => ?_) (fun q => absurd rfl q)
                  have hs : bb (bxs f y) x = true := by rw [eb, hb1, hb2]; rfl
                  refine hp_run_sound hp_co V_mo_trapezoid C (fun _ _ _ _ _ _ _ hq => hq) [144, 101] 10 _ _ _ _ _ _ _ ?_
                  refine And.intro (fun q => ?_) (fun q => ?_)
                  · rw [hs] at hW
                    have hW2 := hW (fun x' h1 hk => by
                      rcases Nat.lt_or_ge x' x with c | c
                      · exact hn2 x' c hk
                      · rw [show x' = x by omega] at hk
                        exact q ((sub_0 _ _).mpr hk.2.2.2))
                    rw [show byn f y + (cn (bb (bxs f y)) x + true.toNat) = byn f y + cn (bb (bxs f y)) x + 1 from rfl, ← sub_m1] at hW2
                    exact hW2
                  · have hT : isT f (nI K) y x := ⟨hy64, hx64, hs, (sub_0 _ _).mp q⟩
                    have hh := hit y x h2 _ ((isT_eq hr).mp hT) hC2 hx2
                    rw [← xbf_eq hr hy64] at hh
                    obtain ⟨g1, g2, g3, g4⟩ := xre_spec (f y) hx64
                    -- along the run
                    have E : ∀ (m2 t : Nat), t + m2 = xre (f y) x → x ≤ t → ∀ z : Int32, hp_W G 144 [(0, .ref 75), (1, .int (nI L)), (2, .int (nI K)), (3, .int (nI w)), (4, .int z), (5, .int (nI y)), (6, .int (nI (xse f y (63 - y)))), (7, .int (nI x)), (8, .int (nI t))] [] h2 false 0 0 := by
                      intro m2
                      induction m2 with
                      | zero =>
                        intro t ht hxt z
                        have e : t = xre (f y) x := by omega
                        refine hp_run_sound hp_co V_mo_trapezoid C (fun _ _ _ _ _ _ _ hq => hq) [] 24 _ _ _ _ _ _ _ ?_
                        refine And.intro ⟨3, _, hC2.1, rfl⟩ ?_
                        refine ic_P (c_mo_isOne l h2 s (0, u.2) (nI t) (nI y) f hC2.1 k81) (Nat.le_refl _) (Nat.le_refl _) ?_
                        rw [on1_N f (by omega) (by omega), show rwN f y = f y from if_pos hy64, e, g4]
                        refine And.intro (fun _ => ?_) (fun q => absurd rfl q)
                        refine And.intro (fun c0 => ?_) (fun c0 => ?_)
                        · refine And.intro (fun c1 => ?_) (fun c1 => ?_)
                          · refine And.intro (fun c2 => ?_) (fun c2 => ?_)
                            · have n0 : w ≠ 0 := fun e => c0 (congrArg nI e)
                              have n1 : w ≠ 1 := fun e => c1 (congrArg nI e)
                              have n2 : w ≠ 2 := fun e => c2 (congrArg nI e)
                              have e3 : w = 3 := by omega
                              subst e3
                              exact And.intro rfl (And.intro rfl hh)
                            · have e3 : w = 2 := (nI_eq (b := 2) (by omega) (by decide)).mp c2
                              subst e3
                              exact And.intro rfl (And.intro rfl hh)
                          · have e3 : w = 1 := (nI_eq (b := 1) (by omega) (by decide)).mp c1
                            subst e3
                            exact And.intro rfl (And.intro rfl hh)
                        · have e3 : w = 0 := (nI_eq (b := 0) (by omega) (by decide)).mp c0
                          subst e3
                          exact And.intro rfl (And.intro rfl hh)
                      | succ m2 i2 =>
                        intro t ht hxt z
                        have hW3 := i2 (t + 1) (by omega) (by omega) z
                        rw [← nI_1 t] at hW3
                        refine hp_run_sound hp_co V_mo_trapezoid C (fun _ _ _ _ _ _ _ hq => hq) [144] 8 _ _ _ _ _ _ _ ?_
                        refine And.intro ⟨3, _, hC2.1, rfl⟩ ?_
                        refine ic_P (c_mo_isOne l h2 s (0, u.2) (nI t) (nI y) f hC2.1 k81) (Nat.le_refl _) (Nat.le_refl _) ?_
                        rw [on1_N f (by omega) (by omega), show rwN f y = f y from if_pos hy64, g3 t hxt (by omega)]
                        refine And.intro (fun q => absurd q (by decide)) (fun _ => ?_)
                        exact hW3
                    exact E (xre (f y) x - x) x (by omega) (Nat.le_refl _) _
          -- the box's top
          have top : ∀ (m2 t : Nat), t + m2 = 64 → y < t → (∀ j, y ≤ j → j < t → f j = f y) → xse f y (63 - y) = xse f y (64 - t) → hp_W G 76 [(0, .ref 75), (1, .int (nI L)), (2, .int (nI K)), (3, .int (nI w)), (4, .int (nI K - nI (byn f y))), (5, .int (nI y)), (6, .int (nI t))] [] h2 false 0 0 := by
            intro m2
            induction m2 with
            | zero =>
              intro t ht hyt hsame hx3
              have e : t = 64 := by omega
              subst e
              have h0 := row 64 0 (by omega) (fun x' h1 => absurd h1 (Nat.not_lt_zero _))
              rw [hx3] at h0
              refine hp_run_sound hp_co V_mo_trapezoid C (fun _ _ _ _ _ _ _ hq => hq) [101] 8 _ _ _ _ _ _ _ ?_
              refine And.intro (fun c => ?_) (fun c => absurd (nI_le (Nat.le_refl 64) (by decide)) c)
              exact h0
            | succ m2 i2 =>
              intro t ht hyt hsame hx3
              have ht64 : t < 64 := by omega
              rw [xse_s f ht64] at hx3
              have ep : rwB f t = f y := by
                unfold rwB rwN
                rw [if_pos (by omega), if_pos (by omega)]
                exact hsame (t - 1) (by omega) (by omega)
              refine hp_run_sound hp_co V_mo_trapezoid C (fun _ _ _ _ _ _ _ hq => hq) [76, 101] 12 _ _ _ _ _ _ _ ?_
              refine And.intro (fun c => absurd c (nI_ge (b := 64) ht64 (by decide))) (fun c => ?_)
              refine And.intro ⟨3, _, hC2.1, rfl⟩ ?_
              refine ic_P (c_mo_isLine l h2 s (0, u.2) t ht64 f hC2.1 k81) (Nat.le_refl _) (Nat.le_refl _) ?_
              rw [ep]
              by_cases c : f t = f y
              · rw [decide_eq_true c]
                rw [if_pos c] at hx3
                refine And.intro (fun q => absurd rfl q) (fun _ => ?_)
                have hW3 := i2 (t + 1) (by omega) (by omega) (fun j h1 h2 => by
                  rcases Nat.lt_or_ge j t with q | q
                  · exact hsame j h1 q
                  · rw [show j = t by omega]
                    exact c) hx3
                rw [← nI_1 t] at hW3
                exact hW3
              · rw [decide_eq_false c]
                rw [if_neg c] at hx3
                refine And.intro (fun _ => ?_) (fun q => absurd q (by decide))
                have h0 := row 64 0 (by omega) (fun x' h1 => absurd h1 (Nat.not_lt_zero _))
                rw [hx3] at h0
                exact h0
          have ht := top (63 - y) (y + 1) (by omega) (by omega) (fun j h1 h2 => by rw [show j = y by omega]) (by rw [show 64 - (y + 1) = 63 - y by omega])
          rw [← nI_1 y] at ht
          exact ht
    have h0 := outer 64 0 (by omega) (fun y' x' h1 => absurd h1 (Nat.not_lt_zero _))
    rw [show nI K - nI (byn f 0) = nI K from Int32.sub_zero _] at h0
    exact h0
  refine hp_run_sound hp_co V_mo_trapezoid C (fun _ _ _ _ _ _ _ hq => hq) [39] 24 _ _ _ _ _ _ _ ?_
  refine And.intro ⟨3, _, hC.1, rfl⟩ ?_
  refine ic_P (c_mo_isLayer l h s u _ hC.1) (Nat.le_refl _) (Nat.le_refl _) ?_
  rw [lay_de hO hL]
  refine And.intro (fun q => absurd q (by decide)) (fun q => ?_)
  refine And.intro (fun q => absurd q (nI_pos hK)) (fun _ => And.intro (fun q => absurd q (nI_pos (by omega))) (fun _ => And.intro (fun _ => ?_) (fun q => absurd (nI_le (b := 3) (by omega) (by decide)) q)))
  refine And.intro (Or.inl rfl) (Exists.intro _ (And.intro hC.1 (And.intro (Nat.le_of_ble_eq_true rfl) (And.intro rfl (And.intro rfl ?_)))))
  refine Exists.intro _ (And.intro (hq_get hC.1) ?_)
  refine And.intro (fun q => ?_) (fun q => absurd (show (0 : Int32) ≤ 0 by decide) q)
  exact t39 _ (moC_cd hC 0) (hxM_75 h _)
set_option maxRecDepth 20000 in
theorem m_trap_0 (l : Launch) (s : St) (L w y x : Nat) (hO : stOK s) (hL : L < s_B s + s_m s) (hw : w < 4) (F : Nat → Int64) (hF : shw s L F) (hy : y < 64) (hx2 : x < 64) (hb : bb (bxs F y) x = true) : moM l Y_mo_trapezoid [.int (nI L), .int (nI (byn F y + cn (bb (bxs F y)) x)), .int (nI w)] s 0 (.int (xbf F y x w)) s := by
  rintro h cd ⟨u, rfl, hC⟩
  have l1 := byn_le F (y := y) (by omega)
  have l2 := cn_le (bb (bxs F y)) x
  refine hp_start (T := T_mo_trapezoid) (by decide) rfl (fun σ => Nat.le_of_ble_eq_true rfl) (fun G C => ?_)
  refine m_trap_walk l s u L _ w hO hL (by omega) hw F hF hC C (fun y' x' h2 v hk hC2 hxh => ?_) (fun h2 v hn _ _ => absurd ⟨hy, hx2, hb, rfl⟩ (hn y x))
  obtain ⟨rfl, rfl⟩ := isT_uq ⟨hy, hx2, hb, rfl⟩ hk
  exact ⟨rfl, hxh, _, rfl, hC2⟩
set_option maxRecDepth 20000 in
theorem m_trap_1k (l : Launch) (s : St) (L w K : Nat) (hO : stOK s) (hL : L < s_B s + s_m s) (hw : w < 4) (hK : K < 2 ^ 31) (F : Nat → Int64) (hF : shw s L F) (hk : byn F 64 ≤ K) : moM l Y_mo_trapezoid [.int (nI L), .int (nI K), .int (nI w)] s 1 (.int 0) s := by
  rintro h cd ⟨u, rfl, hC⟩
  refine hp_start (T := T_mo_trapezoid) (by decide) rfl (fun σ => Nat.le_of_ble_eq_true rfl) (fun G C => ?_)
  refine m_trap_walk l s u L _ w hO hL hK hw F hF hC C (fun y' x' h2 v hk2 hC2 hxh => ?_) (fun h2 v _ hC2 hxh => ⟨rfl, hxh, _, rfl, hC2⟩)
  exfalso
  obtain ⟨n, n1, n2⟩ := isT_lt hk2
  have l0 := byn_le F (y := 64) (by omega)
  have := (nI_eq hK (by omega)).mp n2
  omega
