/-! Lines: rows beside a line -/
def rwN (f : Nat → Int64) (y : Nat) : Int64 := if y < 64 then f y else 0
def rwB (f : Nat → Int64) (y : Nat) : Int64 := if 0 < y then rwN f (y - 1) else 0
def xab (f : Nat → Int64) (y : Nat) : Int64 := rwN f y &&& (rwB f y ^^^ (-1))
def xbe (f : Nat → Int64) (y : Nat) : Int64 := rwB f y &&& (rwN f y ^^^ (-1))
def xls (f : Nat → Int64) (y : Nat) : Int64 := xst (xab f y) ||| xst (xbe f y)
theorem c_rowN (l : Launch) (h : hp_H) (a y : Nat) (hy : y < 2 ^ 31) (f : Nat → Int64) (ha : h[a]? = some (LA 64 f)) :
    hp_M l Y_ro_row [.ref a, .int (nI y)] h true 0 0 (hq_P (.inl (some (.long (rwN f y)))) h) := by
  have hM := c_ro_row l h a (nI y) f ha
  have e : (if 0 ≤ nI y ∧ nI y < 64 then f (nI y).toNatClampNeg else 0) = rwN f y := by
    unfold rwN
    by_cases q : y < 64
    · rw [if_pos ⟨nI_pos' hy, nI_lt q (by decide)⟩, if_pos q, nI_clamp hy]
    · rw [if_neg (fun c => q ((nI_ltI (b := 64) hy (by decide)).mp c.2)), if_neg q]
  rw [e] at hM
  exact hM
theorem c_rowB (l : Launch) (h : hp_H) (a y : Nat) (hy : y < 2 ^ 31) (f : Nat → Int64) (ha : h[a]? = some (LA 64 f)) :
    hp_M l Y_ro_row [.ref a, .int (nI y - 1)] h true 0 0 (hq_P (.inl (some (.long (rwB f y)))) h) := by
  unfold rwB
  rcases Nat.eq_zero_or_pos y with q | q
  · subst q
    have hM := c_ro_row l h a (nI 0 - 1) f ha
    rw [if_neg (fun c => absurd c.1 (by decide))] at hM
    exact hM
  · obtain ⟨z, rfl⟩ : ∃ z, y = z + 1 := ⟨y - 1, by omega⟩
    rw [if_pos q, nI_pred]
    exact c_rowN l h a z (by omega) f ha
set_option maxRecDepth 20000 in
theorem c_li_areaAbove (l : Launch) (h : hp_H) (a y : Nat) (hy : y < 2 ^ 31) (f : Nat → Int64) (ha : h[a]? = some (LA 64 f)) :
    hp_M l Y_li_areaAbove [.ref a, .int (nI y)] h true 0 0 (hq_P (.inl (some (.long (xab f y)))) h) := by
  refine hp_start (T := T_li_areaAbove) (by decide) rfl (fun σ => Nat.le_of_ble_eq_true rfl) (fun G C => ?_)
  refine hp_run_sound hp_co V_li_areaAbove C (fun _ _ _ _ _ _ _ hq => hq) [] 20 _ _ _ _ _ _ _ ?_
  refine ic_P (c_rowN l h a y hy f ha) (Nat.le_refl _) (Nat.le_refl _) ?_
  refine ic_P (c_rowB l h a y hy f ha) (Nat.le_refl _) (Nat.le_refl _) ?_
  exact And.intro rfl (And.intro rfl (And.intro rfl rfl))
set_option maxRecDepth 20000 in
theorem c_li_areaBelow (l : Launch) (h : hp_H) (a y : Nat) (hy : y < 2 ^ 31) (f : Nat → Int64) (ha : h[a]? = some (LA 64 f)) :
    hp_M l Y_li_areaBelow [.ref a, .int (nI y)] h true 0 0 (hq_P (.inl (some (.long (xbe f y)))) h) := by
  refine hp_start (T := T_li_areaBelow) (by decide) rfl (fun σ => Nat.le_of_ble_eq_true rfl) (fun G C => ?_)
  refine hp_run_sound hp_co V_li_areaBelow C (fun _ _ _ _ _ _ _ hq => hq) [] 20 _ _ _ _ _ _ _ ?_
  refine ic_P (c_rowB l h a y hy f ha) (Nat.le_refl _) (Nat.le_refl _) ?_
  refine ic_P (c_rowN l h a y hy f ha) (Nat.le_refl _) (Nat.le_refl _) ?_
  exact And.intro rfl (And.intro rfl (And.intro rfl rfl))
set_option maxRecDepth 20000 in
theorem c_li_lyingStarts (l : Launch) (h : hp_H) (a y : Nat) (hy : y < 2 ^ 31) (f : Nat → Int64) (ha : h[a]? = some (LA 64 f)) :
    hp_M l Y_li_lyingStarts [.ref a, .int (nI y)] h true 0 0 (hq_P (.inl (some (.long (xls f y)))) h) := by
  refine hp_start (T := T_li_lyingStarts) (by decide) rfl (fun σ => Nat.le_of_ble_eq_true rfl) (fun G C => ?_)
  refine hp_run_sound hp_co V_li_lyingStarts C (fun _ _ _ _ _ _ _ hq => hq) [] 20 _ _ _ _ _ _ _ ?_
  refine ic_P (c_li_areaAbove l h a y hy f ha) (Nat.le_refl _) (Nat.le_refl _) ?_
  refine ic_P (c_ro_starts l h _) (Nat.le_refl _) (Nat.le_refl _) ?_
  refine ic_P (c_li_areaBelow l h a y hy f ha) (Nat.le_refl _) (Nat.le_refl _) ?_
  refine ic_P (c_ro_starts l h _) (Nat.le_refl _) (Nat.le_refl _) ?_
  exact And.intro rfl (And.intro rfl (And.intro rfl rfl))
/-- edges that lie below line y -/
def lyn (f : Nat → Int64) : Nat → Nat := sm fun y => cn (bb (xls f y)) 64
set_option maxRecDepth 20000 in
theorem c_li_countLying (l : Launch) (h : hp_H) (a : Nat) (f : Nat → Int64) (ha : h[a]? = some (LA 64 f)) :
    hp_M l Y_li_countLying [.ref a] h true 0 0 (hq_P (.inl (some (.int (nI (lyn f 65))))) h) := by
  refine hp_start (T := T_li_countLying) (by decide) rfl (fun σ => Nat.le_of_ble_eq_true rfl) (fun G C => ?_)
  have key : ∀ (m i : Nat), i + m = 65 → hp_W G 4 [(0, .ref a), (1, .int (nI (lyn f i))), (2, .int (nI i))] [] h true 0 0 := by
    intro m
    induction m with
    | zero =>
      intro i hi
      have e : i = 65 := by omega
      subst e
      refine hp_run_sound hp_co V_li_countLying C (fun _ _ _ _ _ _ _ hq => hq) [4] 6 _ _ _ _ _ _ _ ?_
      refine And.intro (fun c => ?_) (fun c => absurd (nI_lt (show 64 < 65 by decide) (by decide)) c)
      exact And.intro rfl (And.intro rfl (And.intro rfl rfl))
    | succ m ih =>
      intro i hi
      refine hp_run_sound hp_co V_li_countLying C (fun _ _ _ _ _ _ _ hq => hq) [4] 20 _ _ _ _ _ _ _ ?_
      refine And.intro (fun c => absurd c (nI_nlt (b := i) (a := 64) (by omega) (by decide))) (fun c => ?_)
      refine ic_P (c_li_lyingStarts l h a i (by omega) f ha) (Nat.le_refl _) (Nat.le_refl _) ?_
      refine ic_P (c_jl_bitCount l h _) (Nat.le_refl _) (Nat.le_refl _) ?_
      have hW := ih (i + 1) (by omega)
      rw [← nI_1 i, show nI (lyn f (i + 1)) = nI (lyn f i) + nI (cn (bb (xls f i)) 64) from (nI_add _ _).symm] at hW
      exact hW
  refine hp_run_sound hp_co V_li_countLying C (fun _ _ _ _ _ _ _ hq => hq) [4] 8 _ _ _ _ _ _ _ ?_
  exact key 65 0 (by omega)
def xtl (f : Nat → Int64) : Nat → Nat := sm fun y => cn (bb (rwN f y ^^^ rwB f y)) 64 + 2 * cn (bb (xst (rwN f y))) 64
set_option maxRecDepth 20000 in
theorem c_li_totalLength (l : Launch) (h : hp_H) (a : Nat) (f : Nat → Int64) (ha : h[a]? = some (LA 64 f)) :
    hp_M l Y_li_totalLength [.ref a] h true 0 0 (hq_P (.inl (some (.int (nI (xtl f 65))))) h) := by
  refine hp_start (T := T_li_totalLength) (by decide) rfl (fun σ => Nat.le_of_ble_eq_true rfl) (fun G C => ?_)
  have key : ∀ (m i : Nat), i + m = 65 → hp_W G 4 [(0, .ref a), (1, .int (nI (xtl f i))), (2, .int (nI i))] [] h true 0 0 := by
    intro m
    induction m with
    | zero =>
      intro i hi
      have e : i = 65 := by omega
      subst e
      refine hp_run_sound hp_co V_li_totalLength C (fun _ _ _ _ _ _ _ hq => hq) [4] 6 _ _ _ _ _ _ _ ?_
      refine And.intro (fun c => ?_) (fun c => absurd (nI_lt (show 64 < 65 by decide) (by decide)) c)
      exact And.intro rfl (And.intro rfl (And.intro rfl rfl))
    | succ m ih =>
      intro i hi
      refine hp_run_sound hp_co V_li_totalLength C (fun _ _ _ _ _ _ _ hq => hq) [4] 40 _ _ _ _ _ _ _ ?_
      refine And.intro (fun c => absurd c (nI_nlt (b := i) (a := 64) (by omega) (by decide))) (fun c => ?_)
      refine ic_P (c_rowN l h a i (by omega) f ha) (Nat.le_refl _) (Nat.le_refl _) ?_
      refine ic_P (c_rowB l h a i (by omega) f ha) (Nat.le_refl _) (Nat.le_refl _) ?_
      refine ic_P (c_jl_bitCount l h _) (Nat.le_refl _) (Nat.le_refl _) ?_
      refine ic_P (c_ro_countRuns l h _) (Nat.le_refl _) (Nat.le_refl _) ?_
      have hW := ih (i + 1) (by omega)
      have e : nI (xtl f (i + 1)) = nI (xtl f i) + nI (cn (bb (rwN f i ^^^ rwB f i)) 64) + nI 2 * nI (cn (bb (xst (rwN f i))) 64) := by
        rw [pk_mul, nI_add, nI_add, Nat.add_assoc]
        rfl
      rw [← nI_1 i, e] at hW
      refine hp_W_pick [0, 1, 2] ?_
      exact hW
  refine hp_run_sound hp_co V_li_totalLength C (fun _ _ _ _ _ _ _ hq => hq) [4] 8 _ _ _ _ _ _ _ ?_
  exact key 65 0 (by omega)
