/-! the reference: area2 -/
def aX (f : Nat → Int64) (y x : Nat) : Bool := decide (x < 64) && !(bb (rwN f y) x == bb (rwB f y) x)
def bX (f : Nat → Int64) (y x : Nat) : Bool := decide (y < 64) && !(bb (rwN f y) x == (decide (1 ≤ x) && bb (rwN f y) (x - 1)))
def eX (r : Int64) (x : Nat) : Bool := !(bb r x == (decide (1 ≤ x) && bb r (x - 1)))
theorem cn_ends (r : Int64) : ∀ n, n ≤ 65 → cn (eX r) n + (decide (1 ≤ n) && bb r (n - 1)).toNat = 2 * cn (bb (xst r)) n
  | 0, _ => rfl
  | n + 1, hn => by
    have ih := cn_ends r n (by omega)
    have hst : bb (xst r) n = (bb r n && !(decide (1 ≤ n) && bb r (n - 1))) := by
      rcases Nat.lt_or_ge n 64 with c | c
      · exact bb_xst r c
      · rw [bb_big c, bb_big c]
        rfl
    rw [cn_s, cn_s, hst, show decide (1 ≤ n + 1) = true from decide_eq_true (by omega), Nat.add_sub_cancel, Bool.true_and]
    unfold eX at ih ⊢
    generalize (decide (1 ≤ n) && bb r (n - 1)) = p at ih ⊢
    generalize bb r n = b at ih ⊢
    cases p <;> cases b <;> simp at ih ⊢ <;> omega
theorem cn_last {P : Nat → Bool} {n : Nat} (h : P n = false) : cn P (n + 1) = cn P n := by
  rw [cn_s, h, Bool.toNat_false, Nat.add_zero]
theorem cn_bXn (f : Nat → Int64) {y : Nat} (c : y < 64) (n : Nat) : cn (bX f y) n = cn (eX (rwN f y)) n := by
  refine cn_congr n (fun x _ => ?_)
  unfold bX eX
  rw [decide_eq_true c, Bool.true_and]
theorem cn_bX0 (f : Nat → Int64) {y : Nat} (c : ¬ y < 64) (n : Nat) : cn (bX f y) n = 0 :=
  cn_none (fun x _ => show bX f y x = false by unfold bX; rw [decide_eq_false c]; rfl)
theorem cn_eXn (r : Int64) {n : Nat} (hn : n = 64) : cn (eX r) (n + 1) = 2 * cn (bb (xst r)) n := by
  have h := cn_ends r (n + 1) (by omega)
  rw [Nat.add_sub_cancel, bb_big (x := r) (Nat.le_of_eq hn.symm), Bool.and_false, Bool.toNat_false, Nat.add_zero, cn_last (bb_big (x := xst r) (Nat.le_of_eq hn.symm))] at h
  exact h
theorem cn_xst0 (n : Nat) : cn (bb (xst 0)) n = 0 := by
  rw [show xst 0 = 0 from by decide]
  exact cn_none (fun i _ => bb_0 i)
theorem cn_bXm (f : Nat → Int64) (y : Nat) {n : Nat} (hn : n = 64) : cn (bX f y) (n + 1) = 2 * cn (bb (xst (rwN f y))) n := by
  by_cases c : y < 64
  · rw [cn_bXn f c]
    exact cn_eXn _ hn
  · have e : rwN f y = 0 := by unfold rwN; rw [if_neg c]
    rw [cn_bX0 f c, e, cn_xst0]
theorem cn_bX (f : Nat → Int64) (y : Nat) : cn (bX f y) 65 = 2 * cn (bb (xst (rwN f y))) 64 := cn_bXm f y rfl
theorem cn_aXn (f : Nat → Int64) (y : Nat) {n : Nat} (hn : n ≤ 64) : cn (aX f y) n = cn (bb (rwN f y ^^^ rwB f y)) n := by
  refine cn_congr n (fun x hx2 => ?_)
  unfold aX
  rw [decide_eq_true (show x < 64 by omega), bb_xor]
  cases bb (rwN f y) x <;> cases bb (rwB f y) x <;> rfl
theorem cn_aXm (f : Nat → Int64) (y : Nat) {n : Nat} (hn : n = 64) : cn (aX f y) (n + 1) = cn (bb (rwN f y ^^^ rwB f y)) n := by
  have h : aX f y n = false := by
    unfold aX
    rw [decide_eq_false (by omega)]
    rfl
  rw [cn_last h]
  exact cn_aXn f y (Nat.le_of_eq hn)
theorem cn_aX (f : Nat → Int64) (y : Nat) : cn (aX f y) 65 = cn (bb (rwN f y ^^^ rwB f y)) 64 := cn_aXm f y rfl
def sqN (f : Nat → Int64) : Nat → Nat := sm fun y => cn (bb (rwN f y)) 65
def leN (f : Nat → Int64) : Nat → Nat := sm fun y => cn (aX f y) 65 + cn (bX f y) 65
theorem leN_eq (f : Nat → Int64) : leN f 65 = xtl f 65 := sm_congr 65 (fun y _ => by rw [cn_aX, cn_bX])
theorem sqN_eq (f : Nat → Int64) : sqN f 65 = sm (fun y => cn (bb (f y)) 64) 64 := by
  unfold sqN
  rw [sm_s, show rwN f 64 = 0 from if_neg (by decide), cn_none (fun i _ => bb_0 i), Nat.add_zero]
  refine sm_congr 64 (fun y hy => ?_)
  rw [cn_s, bb_big (Nat.le_refl 64), show rwN f y = f y from if_pos hy]
  rfl
theorem sqN_le (f : Nat → Int64) {y : Nat} (h : y ≤ 65) : sqN f y ≤ 4225 := Nat.le_trans (sm_mono _ h) (sm_le (fun i => cn_le _ 65) 65)
theorem leN_le (f : Nat → Int64) {y : Nat} (h : y ≤ 65) : leN f y ≤ 8450 := Nat.le_trans (sm_mono _ h) (sm_le (c := 130) (fun i => by have := cn_le (aX f i) 65; have := cn_le (bX f i) 65; omega) 65)
theorem lN_b (n : Nat) (b : Bool) : lN n + (if b then 1 else 0) = lN (n + b.toNat) := by
  cases b with
  | false => exact lN_add n 0
  | true => exact lN_add n 1
theorem sd_ne (a b : Bool) : sdI a b = 0 ↔ (a == b) = true := by cases a <;> cases b <;> decide
set_option maxRecDepth 20000 in
theorem m_area2_1 (l : Launch) (s : St) (x y : Int32) (hx0 : (x < 0 ∨ nI (s_B s + s_m s) ≤ x) ∨ (y < 0 ∨ 2 ≤ y)) : moM l Y_mo_area2 [.int x, .int y] s 1 (.long 0) s := by
  rintro h cd ⟨u, rfl, hC⟩
  refine hp_start (T := T_mo_area2) (by decide) rfl (fun σ => Nat.le_of_ble_eq_true rfl) (fun G C => ?_)
  have t23 : hp_W G 23 [(0, .ref 75), (1, .int x), (2, .int y)] [.int 1, .ref 75] h true 0 0 := by
    refine hp_run_sound hp_co V_mo_area2 C (fun _ _ _ _ _ _ _ hq => hq) [35] 20 _ _ _ _ _ _ _ ?_
    refine And.intro (Or.inl rfl) (Exists.intro _ (And.intro hC.1 (And.intro (Nat.le_of_ble_eq_true rfl) (And.intro rfl (And.intro rfl ?_)))))
    refine Exists.intro _ (And.intro (hq_get hC.1) ?_)
    refine And.intro (fun q => absurd q (by decide)) (fun q => ?_)
    exact And.intro rfl (And.intro rfl (And.intro rfl ⟨hxM_75 h _, _, rfl, moC_cd hC 1⟩))
  refine hp_run_sound hp_co V_mo_area2 C (fun _ _ _ _ _ _ _ hq => hq) [22, 23] 20 _ _ _ _ _ _ _ ?_
  refine And.intro ⟨3, _, hC.1, rfl⟩ ?_
  refine ic_P (c_mo_isLayer l h s u x hC.1) (Nat.le_refl _) (Nat.le_refl _) ?_
  by_cases h1 : x < 0 ∨ nI (s_B s + s_m s) ≤ x
  · rw [lay_no h1]
    exact And.intro (fun _ => t23) (fun q => absurd rfl q)
  · rw [show decide (¬ x < 0 ∧ ¬ nI (s_B s + s_m s) ≤ x) = true from decide_eq_true ⟨fun q => h1 (Or.inl q), fun q => h1 (Or.inr q)⟩]
    refine And.intro (fun q => absurd q (by decide)) (fun q => ?_)
    refine And.intro (fun _ => t23) (fun q1 => And.intro (fun q3 => ?_) (fun _ => t23))
    exfalso
    rcases hx0.resolve_left h1 with e | e
    · exact q1 e
    · have a1 := Int32.le_iff_toInt_le.mp (show y ≤ 1 from q3)
      have a2 := Int32.le_iff_toInt_le.mp e
      have e1 : (1 : Int32).toInt = 1 := rfl
      have e2 : (2 : Int32).toInt = 2 := rfl
      omega
set_option maxRecDepth 20000 in
theorem m_area2_0 (l : Launch) (s : St) (L i : Nat) (hO : stOK s) (hL : L < s_B s + s_m s) (hi : i < 2) (F : Nat → Int64) (hF : shw s L F) : moM l Y_mo_area2 [.int (nI L), .int (nI i)] s 0 (.long (if i = 0 then 2 * (nI (sm (fun y => cn (bb (F y)) 64) 64)).toInt64 else (nI (xtl F 65)).toInt64)) s := by
  rintro h cd ⟨u, rfl, hC⟩
  refine hp_start (T := T_mo_area2) (by decide) rfl (fun σ => Nat.le_of_ble_eq_true rfl) (fun G C => ?_)
  have t35 : ∀ h1, moC h1 s (0, u.2) → hxM h h1 → hp_W G 35 [(0, .ref 75), (1, .int (nI L)), (2, .int (nI i))] [] h1 false 0 0 := by
    intro h1 hC1 hx1
    refine hp_run_sound hp_co V_mo_area2 C (fun _ _ _ _ _ _ _ hq => hq) [49] 16 _ _ _ _ _ _ _ ?_
    refine And.intro ⟨3, _, hC1.1, rfl⟩ ?_
    refine ic_Q (c_mo_load l h1 s (0, u.2) L true hO hL hC1) (Nat.le_refl _) (Nat.le_refl _) (fun r h2 hq => ?_)
    obtain ⟨rfl, f, rfl, s1⟩ := hq
    obtain ⟨y1, k1⟩ := mw_at hC1.2.2 (lw_or true)
    have hC2 : moC (h1.set 81 (LA 64 f)) s (0, u.2) := moC_81 hC1 f (lw_or true)
    have k81 : (h1.set 81 (LA 64 f))[81]? = some (LA 64 f) := hq_get k1
    have hx2 := hxM_set (a := 81) hx1 (LA 64 f) (by omega)
    have hr := rw_of s1 hF
    show hp_W G 49 _ _ (h1.set 81 (LA 64 f)) _ _ _
    generalize h1.set 81 (LA 64 f) = h2 at hC2 k81 hx2
    have outer : ∀ (m y : Nat), y + m = 65 → hp_W G 49 [(0, .ref 75), (1, .int (nI L)), (2, .int (nI i)), (3, .long (lN (sqN f y))), (5, .long (lN (leN f y))), (7, .int (nI y))] [] h2 false 0 0 := by
      intro m
      induction m with
      | zero =>
        intro y hy
        have e : y = 65 := by omega
        subst e
        have b1 := sqN_le f (y := 65) (Nat.le_refl _)
        have b2 := leN_le f (y := 65) (Nat.le_refl _)
        have eq1 : sqN f 65 = sm (fun y => cn (bb (F y)) 64) 64 := by
          rw [sqN_eq]
          exact sm_congr 64 (fun y hy => by rw [row_eq hr hy])
        have eq2 : leN f 65 = xtl F 65 := by
          rw [leN_eq]
          unfold xtl
          rw [hr, rwB_eq hr]
        rw [eq1] at b1
        rw [eq2] at b2
        rw [eq1, eq2]
        refine hp_run_sound hp_co V_mo_area2 C (fun _ _ _ _ _ _ _ hq => hq) [49] 14 _ _ _ _ _ _ _ ?_
        refine And.intro (fun c => ?_) (fun c => absurd (nI_lt (a := 64) (by decide) (by decide)) c)
        refine And.intro (fun c => ?_) (fun c => ?_)
        · have e : ¬ i = 0 := fun e => c (by rw [e]; rfl)
          rw [if_neg e, nI_l (show xtl F 65 < 2 ^ 31 by omega)]
          exact And.intro rfl (And.intro rfl (And.intro rfl ⟨hx2, _, rfl, hC2⟩))
        · have e : i = 0 := (nI_eq (b := 0) (by omega) (by decide)).mp c
          rw [if_pos e, nI_l (show sm (fun y => cn (bb (F y)) 64) 64 < 2 ^ 31 by omega)]
          exact And.intro rfl (And.intro rfl (And.intro rfl ⟨hx2, _, rfl, hC2⟩))
      | succ m ih =>
        intro y hy
        have inner : ∀ (m' x : Nat), x + m' = 65 → hp_W G 59 [(0, .ref 75), (1, .int (nI L)), (2, .int (nI i)), (3, .long (lN (sqN f y + cn (bb (rwN f y)) x))), (5, .long (lN (leN f y + cn (aX f y) x + cn (bX f y) x))), (7, .int (nI y)), (8, .int (nI x))] [] h2 false 0 0 := by
          intro m'
          induction m' with
          | zero =>
            intro x hx2
            have e : x = 65 := by omega
            subst e
            have hW := ih (y + 1) (by omega)
            rw [show sqN f (y + 1) = sqN f y + cn (bb (rwN f y)) 65 from rfl, show leN f (y + 1) = leN f y + (cn (aX f y) 65 + cn (bX f y) 65) from rfl, ← Nat.add_assoc, ← nI_1 y] at hW
            refine hp_run_sound hp_co V_mo_area2 C (fun _ _ _ _ _ _ _ hq => hq) [49] 8 _ _ _ _ _ _ _ ?_
            refine And.intro (fun c => ?_) (fun c => absurd (nI_lt (a := 64) (by decide) (by decide)) c)
            exact hp_W_pick [0, 1, 2, 3, 5, 7] hW
          | succ m' im =>
            intro x hx2
            have hW := im (x + 1) (by omega)
            rw [cn_s, cn_s, cn_s, ← nI_1 x, ← Nat.add_assoc, ← lN_b, show leN f y + (cn (aX f y) x + (aX f y x).toNat) + (cn (bX f y) x + (bX f y x).toNat) = leN f y + cn (aX f y) x + cn (bX f y) x + (aX f y x).toNat + (bX f y x).toNat by omega, ← lN_b, ← lN_b] at hW
            generalize lN (sqN f y + cn (bb (rwN f y)) x) = SQ at hW ⊢
            generalize lN (leN f y + cn (aX f y) x + cn (bX f y) x) = LE at hW ⊢
            -- the second border
            have t113 : hp_W G 113 [(0, .ref 75), (1, .int (nI L)), (2, .int (nI i)), (3, .long (SQ + (if bb (rwN f y) x then 1 else 0))), (5, .long (LE + (if aX f y x then 1 else 0))), (7, .int (nI y)), (8, .int (nI x))] [] h2 false 0 0 := by
              refine hp_run_sound hp_co V_mo_area2 C (fun _ _ _ _ _ _ _ hq => hq) [59] 20 _ _ _ _ _ _ _ ?_
              unfold bX at hW
              by_cases c : y < 64
              · refine And.intro (fun q => absurd q (nI_ge (b := 64) c (by decide))) (fun _ => ?_)
                refine And.intro ⟨3, _, hC2.1, rfl⟩ ?_
                refine ic_P (c_mo_standing l h2 s (0, u.2) x y (by omega) (by omega) f hC2.1 k81) (Nat.le_refl _) (Nat.le_refl _) ?_
                rw [decide_eq_true c, Bool.true_and] at hW
                refine And.intro (fun q => ?_) (fun q => ?_)
                · rw [(sd_ne _ _).mp q] at hW
                  exact hW
                · have q2 : (bb (rwN f y) x == (decide (1 ≤ x) && bb (rwN f y) (x - 1))) = false := by
                    cases hz : (bb (rwN f y) x == (decide (1 ≤ x) && bb (rwN f y) (x - 1))) with
                    | false => rfl
                    | true => exact absurd ((sd_ne _ _).mpr hz) q
                  rw [q2] at hW
                  exact hW
              · refine And.intro (fun _ => ?_) (fun q => absurd (nI_le (a := 64) (by omega) (by omega)) q)
                rw [decide_eq_false c, Bool.false_and] at hW
                exact hW
            have t85 : hp_W G 85 [(0, .ref 75), (1, .int (nI L)), (2, .int (nI i)), (3, .long (SQ + (if bb (rwN f y) x then 1 else 0))), (5, .long LE), (7, .int (nI y)), (8, .int (nI x))] [] h2 false 0 0 := by
              refine hp_run_sound hp_co V_mo_area2 C (fun _ _ _ _ _ _ _ hq => hq) [113] 20 _ _ _ _ _ _ _ ?_
              unfold aX at t113
              by_cases c : x < 64
              · refine And.intro (fun q => absurd q (nI_ge (b := 64) c (by decide))) (fun _ => ?_)
                refine And.intro ⟨3, _, hC2.1, rfl⟩ ?_
                refine ic_P (c_mo_lying l h2 s (0, u.2) x y (by omega) (by omega) f hC2.1 k81) (Nat.le_refl _) (Nat.le_refl _) ?_
                rw [decide_eq_true c, Bool.true_and] at t113
                refine And.intro (fun q => ?_) (fun q => ?_)
                · rw [(sd_ne _ _).mp q] at t113
                  exact t113
                · have q2 : (bb (rwN f y) x == bb (rwB f y) x) = false := by
                    cases hz : (bb (rwN f y) x == bb (rwB f y) x) with
                    | false => rfl
                    | true => exact absurd ((sd_ne _ _).mpr hz) q
                  rw [q2] at t113
                  exact t113
              · refine And.intro (fun _ => ?_) (fun q => absurd (nI_le (a := 64) (by omega) (by omega)) q)
                rw [decide_eq_false c, Bool.false_and] at t113
                exact t113
            refine hp_run_sound hp_co V_mo_area2 C (fun _ _ _ _ _ _ _ hq => hq) [85] 20 _ _ _ _ _ _ _ ?_
            refine And.intro (fun c => absurd c (nI_nlt (a := 64) (by omega) (by decide))) (fun c => ?_)
            refine And.intro ⟨3, _, hC2.1, rfl⟩ ?_
            refine ic_P (c_mo_isOne l h2 s (0, u.2) (nI x) (nI y) f hC2.1 k81) (Nat.le_refl _) (Nat.le_refl _) ?_
            rw [on1_N f (by omega) (by omega)]
            cases hz : bb (rwN f y) x with
            | false =>
              rw [hz] at t85
              exact And.intro (fun _ => t85) (fun q => absurd rfl q)
            | true =>
              rw [hz] at t85
              exact And.intro (fun q => absurd q (by decide)) (fun _ => t85)
        have h0 := inner 65 0 (by omega)
        refine hp_run_sound hp_co V_mo_area2 C (fun _ _ _ _ _ _ _ hq => hq) [59] 8 _ _ _ _ _ _ _ ?_
        refine And.intro (fun c => absurd c (nI_nlt (a := 64) (by omega) (by decide))) (fun c => ?_)
        exact h0
    exact outer 65 0 (by omega)
  refine hp_run_sound hp_co V_mo_area2 C (fun _ _ _ _ _ _ _ hq => hq) [35] 24 _ _ _ _ _ _ _ ?_
  refine And.intro ⟨3, _, hC.1, rfl⟩ ?_
  refine ic_P (c_mo_isLayer l h s u _ hC.1) (Nat.le_refl _) (Nat.le_refl _) ?_
  rw [lay_de hO hL]
  refine And.intro (fun q => absurd q (by decide)) (fun q => ?_)
  refine And.intro (fun q => absurd q (nI_pos (by omega))) (fun _ => And.intro (fun _ => ?_) (fun q => absurd (nI_le (b := 1) (by omega) (by decide)) q))
  refine And.intro (Or.inl rfl) (Exists.intro _ (And.intro hC.1 (And.intro (Nat.le_of_ble_eq_true rfl) (And.intro rfl (And.intro rfl ?_)))))
  refine Exists.intro _ (And.intro (hq_get hC.1) ?_)
  refine And.intro (fun q => ?_) (fun q => absurd (show (0 : Int32) ≤ 0 by decide) q)
  exact t35 _ (moC_cd hC 0) (hxM_75 h _)
