/-! turn -/
def twd : Nat → Nat
  | 0 => 0
  | j + 1 => 2 ^ j
def tlm : Nat → Int64
  | 0 => 0
  | j + 1 => ofB fun x => decide (x / 2 ^ j % 2 = 0)
/-- pass of width w -/
def tsw (w : Nat) (g : Nat → Int64) (y : Nat) : Int64 := ofB fun x => if y / w % 2 = x / w % 2 then bb (g y) x else if y / w % 2 = 0 then bb (g (y + w)) (x - w) else bb (g (y - w)) (x + w)
/-- the rows whose pair begins before i are made -/
def tin (w i : Nat) (g : Nat → Int64) (y : Nat) : Int64 := if y < 64 ∧ y - w * (y / w % 2) < i then tsw w g y else g y
def tmx (m : Nat) (f : Nat → Int64) (y : Nat) : Int64 := if y < 64 then ofB fun x => bb (f (x / m * m + y % m)) (y / m * m + x % m) else f y
theorem tw_and : ∀ j, j < 6 → ∀ y, y < 64 → (nI y &&& nI (2 ^ j) = 0 ↔ y / 2 ^ j % 2 = 0) := by decide +kernel
theorem tw_or : ∀ j, j < 6 → ∀ y, y < 64 → y / 2 ^ j % 2 = 0 → nI y ||| nI (2 ^ j) = nI (y + 2 ^ j) := by decide +kernel
theorem tw_lm : ∀ j, j < 6 → tlm (j + 1) ^^^ (tlm (j + 1) <<< ((nI (twd j)).toInt64 &&& 63)) = tlm j := by decide +kernel
theorem tw_six {P : Nat → Prop} (h0 : P 1) (h1 : P 2) (h2 : P 4) (h3 : P 8) (h4 : P 16) (h5 : P 32) : ∀ j, j < 6 → P (2 ^ j)
  | 0, _ => h0
  | 1, _ => h1
  | 2, _ => h2
  | 3, _ => h3
  | 4, _ => h4
  | 5, _ => h5
  | j + 6, h => absurd h (by omega)
theorem tw_lt : ∀ j, j < 6 → ∀ y, y < 64 → y / 2 ^ j % 2 = 0 → y + 2 ^ j < 64 := tw_six (P := fun w => ∀ y, y < 64 → y / w % 2 = 0 → y + w < 64) (fun y => by omega) (fun y => by omega) (fun y => by omega) (fun y => by omega) (fun y => by omega) (fun y => by omega)
theorem tw_base : ∀ j, j < 6 → ∀ y i, y < 64 → i < 64 → i / 2 ^ j % 2 = 0 → (y - 2 ^ j * (y / 2 ^ j % 2) < i + 1 ↔ y = i ∨ y = i + 2 ^ j ∨ y - 2 ^ j * (y / 2 ^ j % 2) < i) := tw_six (P := fun w => ∀ y i, y < 64 → i < 64 → i / w % 2 = 0 → (y - w * (y / w % 2) < i + 1 ↔ y = i ∨ y = i + w ∨ y - w * (y / w % 2) < i)) (fun y i => by omega) (fun y i => by omega) (fun y i => by omega) (fun y i => by omega) (fun y i => by omega) (fun y i => by omega)
theorem tw_skip : ∀ j, j < 6 → ∀ y i, y < 64 → i < 64 → i / 2 ^ j % 2 ≠ 0 → (y - 2 ^ j * (y / 2 ^ j % 2) < i + 1 ↔ y - 2 ^ j * (y / 2 ^ j % 2) < i) := tw_six (P := fun w => ∀ y i, y < 64 → i < 64 → i / w % 2 ≠ 0 → (y - w * (y / w % 2) < i + 1 ↔ y - w * (y / w % 2) < i)) (fun y i => by omega) (fun y i => by omega) (fun y i => by omega) (fun y i => by omega) (fun y i => by omega) (fun y i => by omega)
theorem tw_end : ∀ j, j < 6 → ∀ y, y < 64 → y - 2 ^ j * (y / 2 ^ j % 2) < 64 := fun j _ y h => by omega
theorem tw_par : ∀ j, j < 6 → ∀ i, (i + 2 ^ j) / 2 ^ j % 2 = (i / 2 ^ j + 1) % 2 := fun j _ i => by rw [Nat.add_div_right _ (Nat.two_pow_pos j)]
theorem tw_sub : ∀ j, j < 6 → ∀ x, 2 ^ j ≤ x → (x - 2 ^ j) / 2 ^ j % 2 = (x / 2 ^ j + 1) % 2 := tw_six (P := fun w => ∀ x, w ≤ x → (x - w) / w % 2 = (x / w + 1) % 2) (fun y => by omega) (fun y => by omega) (fun y => by omega) (fun y => by omega) (fun y => by omega) (fun y => by omega)
theorem tw_one : ∀ j, j < 6 → ∀ x, x / 2 ^ j % 2 ≠ 0 → 2 ^ j ≤ x := tw_six (P := fun w => ∀ x, x / w % 2 ≠ 0 → w ≤ x) (fun y => by omega) (fun y => by omega) (fun y => by omega) (fun y => by omega) (fun y => by omega) (fun y => by omega)
theorem tw_64 : ∀ j, j < 6 → 2 ^ j < 64 := by decide
theorem tin_0 (w : Nat) (g : Nat → Int64) : tin w 0 g = g := funext fun y => if_neg (fun q => by omega)
theorem tin_at {j i : Nat} (hj : j < 6) (hi : i < 64) (h : i / 2 ^ j % 2 = 0) (g : Nat → Int64) : tin (2 ^ j) i g i = g i ∧ tin (2 ^ j) i g (i + 2 ^ j) = g (i + 2 ^ j) := by
  refine ⟨if_neg (fun q => ?_), if_neg (fun q => ?_)⟩
  · rw [h] at q; omega
  · have := tw_par j hj i
    have e : (i + 2 ^ j) / 2 ^ j % 2 = 1 := by omega
    rw [e] at q; omega
theorem tin_skip {j i : Nat} (hj : j < 6) (hi : i < 64) (h : i / 2 ^ j % 2 ≠ 0) (g : Nat → Int64) : tin (2 ^ j) (i + 1) g = tin (2 ^ j) i g := by
  funext y
  unfold tin
  by_cases hy : y < 64
  · have := tw_skip j hj y i hy hi h
    simp only [hy, true_and, this]
  · simp only [hy, false_and]
theorem tin_put {j i : Nat} (hj : j < 6) (hi : i < 64) (h : i / 2 ^ j % 2 = 0) (g : Nat → Int64) : vp_updL (vp_updL (tin (2 ^ j) i g) i (tsw (2 ^ j) g i)) (i + 2 ^ j) (tsw (2 ^ j) g (i + 2 ^ j)) = tin (2 ^ j) (i + 1) g := by
  have hl := tw_lt j hj i hi h
  funext y
  unfold vp_updL
  by_cases h1 : y = i + 2 ^ j
  · rw [if_pos h1, h1]
    exact (if_pos ⟨hl, (tw_base j hj _ i hl hi h).mpr (Or.inr (Or.inl rfl))⟩).symm
  · rw [if_neg h1]
    by_cases h2 : y = i
    · rw [if_pos h2, h2]
      exact (if_pos ⟨hi, (tw_base j hj _ i hi hi h).mpr (Or.inl rfl)⟩).symm
    · rw [if_neg h2]
      unfold tin
      by_cases hy : y < 64
      · have := tw_base j hj y i hy hi h
        simp only [h1, h2, false_or] at this
        simp only [hy, true_and, this]
      · simp only [hy, false_and]
theorem tin_64 {j : Nat} (hj : j < 6) (g : Nat → Int64) : tin (2 ^ j) 64 g = fun y => if y < 64 then tsw (2 ^ j) g y else g y := by
  funext y
  unfold tin
  by_cases hy : y < 64
  · simp only [hy, true_and, tw_end j hj y hy, if_true]
  · simp only [hy, false_and]
theorem tw_mix : ∀ j, j < 6 → ∀ y, y < 64 → ∀ x, x < 64 → (y / 2 ^ j % 2 = x / 2 ^ j % 2 → x / (2 ^ j * 2) * (2 ^ j * 2) + y % (2 ^ j * 2) = x / 2 ^ j * 2 ^ j + y % 2 ^ j ∧ y / (2 ^ j * 2) * (2 ^ j * 2) + x % (2 ^ j * 2) = y / 2 ^ j * 2 ^ j + x % 2 ^ j) ∧ (y / 2 ^ j % 2 ≠ x / 2 ^ j % 2 → y / 2 ^ j % 2 = 0 → x - 2 ^ j < 64 ∧ y + 2 ^ j < 64 ∧ (x - 2 ^ j) / (2 ^ j * 2) * (2 ^ j * 2) + (y + 2 ^ j) % (2 ^ j * 2) = x / 2 ^ j * 2 ^ j + y % 2 ^ j ∧ (y + 2 ^ j) / (2 ^ j * 2) * (2 ^ j * 2) + (x - 2 ^ j) % (2 ^ j * 2) = y / 2 ^ j * 2 ^ j + x % 2 ^ j) ∧ (y / 2 ^ j % 2 ≠ x / 2 ^ j % 2 → y / 2 ^ j % 2 ≠ 0 → x + 2 ^ j < 64 ∧ y - 2 ^ j < 64 ∧ (x + 2 ^ j) / (2 ^ j * 2) * (2 ^ j * 2) + (y - 2 ^ j) % (2 ^ j * 2) = x / 2 ^ j * 2 ^ j + y % 2 ^ j ∧ (y - 2 ^ j) / (2 ^ j * 2) * (2 ^ j * 2) + (x + 2 ^ j) % (2 ^ j * 2) = y / 2 ^ j * 2 ^ j + x % 2 ^ j) :=
  tw_six (P := fun w => ∀ y, y < 64 → ∀ x, x < 64 → (y / w % 2 = x / w % 2 → x / (w * 2) * (w * 2) + y % (w * 2) = x / w * w + y % w ∧ y / (w * 2) * (w * 2) + x % (w * 2) = y / w * w + x % w) ∧ (y / w % 2 ≠ x / w % 2 → y / w % 2 = 0 → x - w < 64 ∧ y + w < 64 ∧ (x - w) / (w * 2) * (w * 2) + (y + w) % (w * 2) = x / w * w + y % w ∧ (y + w) / (w * 2) * (w * 2) + (x - w) % (w * 2) = y / w * w + x % w) ∧ (y / w % 2 ≠ x / w % 2 → y / w % 2 ≠ 0 → x + w < 64 ∧ y - w < 64 ∧ (x + w) / (w * 2) * (w * 2) + (y - w) % (w * 2) = x / w * w + y % w ∧ (y - w) / (w * 2) * (w * 2) + (x + w) % (w * 2) = y / w * w + x % w)) (fun y _ x _ => by omega) (fun y _ x _ => by omega) (fun y _ x _ => by omega) (fun y _ x _ => by omega) (fun y _ x _ => by omega) (fun y _ x _ => by omega)
theorem tsw_tmx {j : Nat} (hj : j < 6) (f : Nat → Int64) : tin (2 ^ j) 64 (tmx (2 ^ (j + 1)) f) = tmx (2 ^ j) f := by
  rw [tin_64 hj, Nat.pow_succ]
  funext y
  by_cases hy : y < 64
  · rw [if_pos hy]
    refine bb_ext (fun x hx => ?_)
    obtain ⟨k1, k2, k3⟩ := tw_mix j hj y hy x hx
    have e : ∀ m y x, y < 64 → x < 64 → bb (tmx m f y) x = bb (f (x / m * m + y % m)) (y / m * m + x % m) := fun m y x h1 h2 => by
      unfold tmx
      rw [if_pos h1, bb_ofB _ h2]
    rw [e _ _ _ hy hx]
    unfold tsw
    rw [bb_ofB _ hx]
    by_cases h1 : y / 2 ^ j % 2 = x / 2 ^ j % 2
    · rw [if_pos h1, e _ _ _ hy hx, (k1 h1).1, (k1 h1).2]
    · rw [if_neg h1]
      by_cases h2 : y / 2 ^ j % 2 = 0
      · obtain ⟨a1, a2, a3, a4⟩ := k2 h1 h2
        rw [if_pos h2, e _ _ _ a2 a1, a3, a4]
      · obtain ⟨a1, a2, a3, a4⟩ := k3 h1 h2
        rw [if_neg h2, e _ _ _ a2 a1, a3, a4]
  · rw [if_neg hy]
    unfold tmx
    rw [if_neg hy, if_neg hy]
theorem tmx_64 (f : Nat → Int64) : tmx 64 f = f := by
  funext y
  unfold tmx
  by_cases hy : y < 64
  · rw [if_pos hy]
    refine (ofB_eq (fun x hx => ?_)).symm
    rw [show x / 64 * 64 + y % 64 = y by omega, show y / 64 * 64 + x % 64 = x by omega]
  · rw [if_neg hy]
/-- x made of y and y of x -/
def xtu (f : Nat → Int64) (y : Nat) : Int64 := if y < 64 then ofB fun x => bb (f x) y else f y
theorem tmx_1 (f : Nat → Int64) : tmx 1 f = xtu f := by
  funext y
  unfold tmx xtu
  by_cases hy : y < 64
  · rw [if_pos hy, if_pos hy]
    refine ofB_eq (fun x hx => ?_)
    rw [bb_ofB _ hx, Nat.div_one, Nat.div_one, Nat.mod_one, Nat.mod_one, Nat.mul_one, Nat.mul_one, Nat.add_zero, Nat.add_zero]
  · rw [if_neg hy, if_neg hy]
theorem bb_xtu (f : Nat → Int64) {y x : Nat} (hy : y < 64) (hx : x < 64) : bb (xtu f y) x = bb (f x) y := by
  unfold xtu
  rw [if_pos hy, bb_ofB _ hx]
/-- what one pass does with one pair of rows -/
theorem tsw_pair {j i : Nat} (hj : j < 6) (hi : i < 64) (h : i / 2 ^ j % 2 = 0) (g : Nat → Int64) :
    g i ^^^ (((((g i).toUInt64 >>> ((nI (2 ^ j)).toInt64.toUInt64 &&& Int64.toUInt64 63)).toInt64 ^^^ g (i + 2 ^ j)) &&& tlm (j + 1)) <<< ((nI (2 ^ j)).toInt64 &&& 63)) = tsw (2 ^ j) g i
    ∧ g (i + 2 ^ j) ^^^ ((((g i).toUInt64 >>> ((nI (2 ^ j)).toInt64.toUInt64 &&& Int64.toUInt64 63)).toInt64 ^^^ g (i + 2 ^ j)) &&& tlm (j + 1)) = tsw (2 ^ j) g (i + 2 ^ j) := by
  have h64 := tw_64 j hj
  have hp := tw_par j hj i
  refine ⟨ofB_eq (fun x hx => ?_), ofB_eq (fun x hx => ?_)⟩
  · rw [bb_xor, bb_shl h64 _ hx]
    by_cases hx0 : x / 2 ^ j % 2 = 0
    · rw [if_pos (by rw [h, hx0])]
      by_cases hle : 2 ^ j ≤ x
      · have := tw_sub j hj x hle
        rw [bb_and, show tlm (j + 1) = ofB fun x => decide (x / 2 ^ j % 2 = 0) from rfl, bb_ofB _ (Nat.lt_of_le_of_lt (Nat.sub_le _ _) hx : x - 2 ^ j < 64)]
        simp only [show ¬ (x - 2 ^ j) / 2 ^ j % 2 = 0 by omega, decide_false, Bool.and_false, Bool.xor_false]
      · simp only [hle, decide_false, Bool.false_and, Bool.xor_false]
    · have hle := tw_one j hj x hx0
      have := tw_sub j hj x hle
      rw [if_neg (by rw [h]; exact fun q => hx0 q.symm), if_pos h]
      rw [bb_and, show tlm (j + 1) = ofB fun x => decide (x / 2 ^ j % 2 = 0) from rfl, bb_ofB _ (Nat.lt_of_le_of_lt (Nat.sub_le _ _) hx : x - 2 ^ j < 64), bb_xor, bb_shr h64]
      simp only [show (x - 2 ^ j) / 2 ^ j % 2 = 0 by omega, hle, decide_true, Bool.and_true, Bool.true_and, show 2 ^ j + (x - 2 ^ j) = x by omega]
      cases bb (g i) x <;> cases bb (g (i + 2 ^ j)) (x - 2 ^ j) <;> rfl
  · rw [bb_xor, bb_and, show tlm (j + 1) = ofB fun x => decide (x / 2 ^ j % 2 = 0) from rfl, bb_ofB _ hx, bb_xor, bb_shr h64]
    have hp1 : (i + 2 ^ j) / 2 ^ j % 2 = 1 := by omega
    by_cases hx0 : x / 2 ^ j % 2 = 0
    · rw [if_neg (by rw [hp1, hx0]; decide), if_neg (by rw [hp1]; decide), Nat.add_sub_cancel, Nat.add_comm (2 ^ j) x]
      simp only [hx0, decide_true, Bool.and_true]
      cases bb (g i) (x + 2 ^ j) <;> cases bb (g (i + 2 ^ j)) x <;> rfl
    · rw [if_pos (by rw [hp1]; omega)]
      simp only [hx0, decide_false, Bool.and_false, Bool.xor_false]
theorem tw_shr : ∀ j, j < 6 → nI (2 ^ j) >>> ((1 : Int32) &&& 31) = nI (twd j) := by decide +kernel
set_option maxRecDepth 20000 in
theorem c_ro_turn (l : Launch) (h : hp_H) (a : Nat) (f : Nat → Int64) (ha : h[a]? = some (LA 64 f)) :
    hp_M l Y_ro_turn [.ref a] h false 0 0 (hq_P (.inl none) (h.set a (LA 64 (xtu f)))) := by
  refine hp_start (T := T_ro_turn) (by decide) rfl (fun σ => Nat.le_of_ble_eq_true rfl) (fun G C => ?_)
  have key : ∀ j, j ≤ 6 → hp_W G 9 [(0, .ref a), (1, .long (tlm j)), (3, .int (nI (twd j)))] [] (h.set a (LA 64 (tmx (2 ^ j) f))) false 0 0 := by
    intro j
    induction j with
    | zero =>
      intro _
      refine hp_run_sound hp_co V_ro_turn C (fun _ _ _ _ _ _ _ hq => hq) [9] 6 _ _ _ _ _ _ _ ?_
      refine And.intro (fun c => ?_) (fun c => absurd (show nI (twd 0) ≤ 0 by decide) c)
      rw [Nat.pow_zero, tmx_1]
      exact And.intro rfl (And.intro rfl (And.intro rfl rfl))
    | succ j ih =>
      intro hj
      have hj : j < 6 := hj
      have inner : ∀ m i, i + m = 64 → hp_W G 16 [(0, .ref a), (1, .long (tlm (j + 1))), (3, .int (nI (2 ^ j))), (4, .int (nI i))] [] (h.set a (LA 64 (tin (2 ^ j) i (tmx (2 ^ (j + 1)) f)))) false 0 0 := by
        intro m
        induction m with
        | zero =>
          intro i hi
          have e : i = 64 := by omega
          subst e
          refine hp_run_sound hp_co V_ro_turn C (fun _ _ _ _ _ _ _ hq => hq) [9, 16] 20 _ _ _ _ _ _ _ ?_
          refine And.intro (fun c => ?_) (fun c => absurd (nI_le (Nat.le_refl 64) (by decide)) c)
          have hW := ih (by omega)
          rw [tsw_tmx hj]
          refine hp_W_pick [0, 1, 3] ?_
          rw [← tw_lm j hj, ← tw_shr j hj] at hW
          exact hW
        | succ m im =>
          intro i hi
          have hi64 : i < 64 := by omega
          have hW := im (i + 1) (by omega)
          rw [← nI_1 i] at hW
          refine hp_run_sound hp_co V_ro_turn C (fun _ _ _ _ _ _ _ hq => hq) [9, 16] 50 _ _ _ _ _ _ _ ?_
          refine And.intro (fun c => absurd c (nI_ge (b := 64) (by omega) (by decide))) (fun c => ?_)
          refine And.intro (fun c2 => ?_) (fun c2 => ?_)
          · rw [tin_skip hj hi64 (fun q => c2 ((tw_and j hj i hi64).mpr q))] at hW
            exact hW
          · have c3 : i / 2 ^ j % 2 = 0 := (tw_and j hj i hi64).mp c2
            have hl := tw_lt j hj i hi64 c3
            have ho := tw_or j hj i hi64 c3
            obtain ⟨t1, t2⟩ := tin_at hj hi64 c3 (tmx (2 ^ (j + 1)) f)
            obtain ⟨p1, p2⟩ := tsw_pair hj hi64 c3 (tmx (2 ^ (j + 1)) f)
            refine Exists.intro 64 (Exists.intro _ (And.intro (hq_get ha) (And.intro (in64 hi64) ?_)))
            refine Exists.intro 64 (Exists.intro _ (And.intro (hq_get ha) (And.intro (by rw [ho]; exact in64 hl) ?_)))
            refine Exists.intro 64 (Exists.intro _ (And.intro (hq_get ha) (And.intro (in64 hi64) ?_)))
            refine Exists.intro 64 (Exists.intro _ (And.intro (hq_get ha) (And.intro (in64 hi64) ?_)))
            refine Exists.intro 64 (Exists.intro _ (And.intro (hq_get (hq_get ha)) (And.intro (by rw [ho]; exact in64 hl) ?_)))
            refine Exists.intro 64 (Exists.intro _ (And.intro (hq_get (hq_get ha)) (And.intro (by rw [ho]; exact in64 hl) ?_)))
            refine hp_W_pick [0, 1, 3, 4] ?_
            rw [hq_set, hq_set, ho, cl64 hi64, cl64 hl, t1, t2, p1]
            have hn : i + 2 ^ j ≠ i := by have := Nat.two_pow_pos j; omega
            rw [pk_uLn hn, t2, p2, tin_put hj hi64 c3]
            exact hW
      have h0 := inner 64 0 (by omega)
      rw [tin_0] at h0
      refine hp_run_sound hp_co V_ro_turn C (fun _ _ _ _ _ _ _ hq => hq) [16] 6 _ _ _ _ _ _ _ ?_
      refine And.intro (fun c => absurd c (nI_nle (Nat.two_pow_pos j) (Nat.lt_trans (tw_64 j hj) (by decide)))) (fun c => ?_)
      exact h0
  have h0 := key 6 (by omega)
  rw [show 2 ^ 6 = 64 from rfl, tmx_64, hq_self ha] at h0
  refine hp_run_sound hp_co V_ro_turn C (fun _ _ _ _ _ _ _ hq => hq) [9] 6 _ _ _ _ _ _ _ ?_
  refine ic_P (c_ro_leftOf l h 32 (by decide)) (Nat.le_refl _) (Nat.le_refl _) ?_
  have e : xlo 32 = tlm 6 := by decide +kernel
  rw [e]
  exact hp_W_dirty h0
set_option maxRecDepth 20000 in
theorem c_ro_resize (l : Launch) (h : hp_H) (a b dx dy : Nat) (g : Bool) (hx : dx ≤ 64) (hy : dy ≤ 64) (f e : Nat → Int64) (ha : h[a]? = some (LA 64 f)) (hb : h[b]? = some (LA 64 e)) :
    hp_M l Y_ro_resize [.ref a, .ref b, .int (nI dx), .int (nI dy), .int (zI g)] h false 0 0 (fun r h' => r = .inl none ∧ ∃ f', h' = h.set b (LA 64 f') ∧ ∀ y, y < 64 → f' y = xtu (fun x => xrs g (xtu (fun v => xrs g (f v) dx) x) dy) y) := by
  refine hp_start (T := T_ro_resize) (by decide) rfl (fun σ => Nat.le_of_ble_eq_true rfl) (fun G C => ?_)
  refine hp_run_sound hp_co V_ro_resize C (fun _ _ _ _ _ _ _ hq => hq) [] 30 _ _ _ _ _ _ _ ?_
  refine ic_P (c_ro_copy l h a b f e ha hb) (Nat.le_refl _) (Nat.le_refl _) ?_
  refine ic_P (c_ro_resizeAlongX l _ b dx g hx _ (hq_get hb)) (Nat.le_refl _) (Nat.le_refl _) ?_
  refine ic_P (c_ro_turn l _ b _ (hq_get (hq_get hb))) (Nat.le_refl _) (Nat.le_refl _) ?_
  refine ic_P (c_ro_resizeAlongX l _ b dy g hy _ (hq_get (hq_get (hq_get hb)))) (Nat.le_refl _) (Nat.le_refl _) ?_
  refine ic_P (c_ro_turn l _ b _ (hq_get (hq_get (hq_get (hq_get hb))))) (Nat.le_refl _) (Nat.le_refl _) ?_
  refine And.intro rfl (And.intro rfl (And.intro rfl ?_))
  rw [hq_set, hq_set, hq_set, hq_set]
  refine ⟨_, rfl, fun y hy2 => bb_ext (fun x hx2 => ?_)⟩
  rw [bb_xtu _ hy2 hx2, bb_xtu _ hy2 hx2, pt_lt _ _ hx2]
  have e1 : xtu (pt 64 (fun y => xrs g ((fun j => if j < 64 then f j else e j) y) dx) (fun j => if j < 64 then f j else e j)) x = xtu (fun v => xrs g (f v) dx) x := bb_ext (fun z hz => by
    rw [bb_xtu _ hx2 hz, bb_xtu _ hx2 hz, pt_lt _ _ hz]
    show bb (xrs g (if z < 64 then f z else e z) dx) x = _
    rw [if_pos hz])
  rw [e1]
