/-! Lines: boxes -/
/-- rows from place 64 - m on: the first that is not row y -/
def xse (f : Nat → Int64) (y : Nat) : Nat → Nat
  | 0 => 64
  | m + 1 => if f (63 - m) = f y then xse f y m else 63 - m
set_option maxRecDepth 20000 in
theorem c_li_sameRowsEnd (l : Launch) (h : hp_H) (a y : Nat) (hy : y < 64) (f : Nat → Int64) (ha : h[a]? = some (LA 64 f)) :
    hp_M l Y_li_sameRowsEnd [.ref a, .int (nI y)] h true 0 0 (hq_P (.inl (some (.int (nI (xse f y (63 - y)))))) h) := by
  refine hp_start (T := T_li_sameRowsEnd) (by decide) rfl (fun σ => Nat.le_of_ble_eq_true rfl) (fun G C => ?_)
  have key : ∀ (m i : Nat), i + m = 64 → xse f y m = xse f y (63 - y) → hp_W G 4 [(0, .ref a), (1, .int (nI y)), (2, .int (nI i))] [] h true 0 0 := by
    intro m
    induction m with
    | zero =>
      intro i hi hs
      have e : i = 64 := by omega
      subst e
      refine hp_run_sound hp_co V_li_sameRowsEnd C (fun _ _ _ _ _ _ _ hq => hq) [4] 6 _ _ _ _ _ _ _ ?_
      refine And.intro (fun c => ?_) (fun c => absurd (nI_le (Nat.le_refl 64) (by decide)) c)
      rw [← hs]
      exact And.intro rfl (And.intro rfl (And.intro rfl rfl))
    | succ m ih =>
      intro i hi hs
      have e : 63 - m = i := by omega
      refine hp_run_sound hp_co V_li_sameRowsEnd C (fun _ _ _ _ _ _ _ hq => hq) [4] 20 _ _ _ _ _ _ _ ?_
      refine And.intro (fun c => absurd c (nI_ge (b := 64) (by omega) (by decide))) (fun c => ?_)
      refine Exists.intro 64 (Exists.intro f (And.intro ha (And.intro (in64 (by omega)) ?_)))
      refine Exists.intro 64 (Exists.intro f (And.intro ha (And.intro (in64 (by omega)) ?_)))
      rw [cl64 hy, cl64 (show i < 64 by omega)]
      refine And.intro (fun c => ?_) (fun c => ?_)
      · have hn : ¬ f (63 - m) = f y := by rw [e]; exact fun q => c ((lg_cmp_eq _ _).mpr q)
        have e2 : xse f y (m + 1) = i := by
          show (if _ then _ else _) = i
          rw [if_neg hn, e]
        rw [← hs, e2]
        exact And.intro rfl (And.intro rfl (And.intro rfl rfl))
      · have hn : f (63 - m) = f y := by rw [e]; exact (lg_cmp_eq _ _).mp c
        have hW := ih (i + 1) (by omega) (by rw [← hs]; exact (if_pos hn).symm)
        rw [← nI_1 i] at hW
        exact hW
  have h0 := key (63 - y) (y + 1) (by omega) rfl
  rw [← nI_1 y] at h0
  refine hp_run_sound hp_co V_li_sameRowsEnd C (fun _ _ _ _ _ _ _ hq => hq) [4] 8 _ _ _ _ _ _ _ ?_
  exact h0
def xbf (f : Nat → Int64) (y x what : Nat) : Int32 := match what with
  | 0 => nI x
  | 1 => nI y
  | 2 => nI (xre (f y) x)
  | _ => nI (xse f y (63 - y))
set_option maxRecDepth 20000 in
theorem c_li_boxFactAt (l : Launch) (h : hp_H) (a y x w : Nat) (hy : y < 64) (hw : w < 4) (f : Nat → Int64) (ha : h[a]? = some (LA 64 f)) :
    hp_M l Y_li_boxFactAt [.ref a, .int (nI y), .int (nI x), .int (nI w)] h true 0 0 (hq_P (.inl (some (.int (xbf f y x w)))) h) := by
  refine hp_start (T := T_li_boxFactAt) (by decide) rfl (fun σ => Nat.le_of_ble_eq_true rfl) (fun G C => ?_)
  refine hp_run_sound hp_co V_li_boxFactAt C (fun _ _ _ _ _ _ _ hq => hq) [] 20 _ _ _ _ _ _ _ ?_
  have ht : (nI w).toInt = (w : Int) := nI_toInt (by omega)
  refine And.intro (fun q => ?_) (And.intro (fun q => ?_) (And.intro (fun q => ?_) (And.intro (fun q => ?_) trivial)))
  · have e : w = 3 := by rw [ht] at q; omega
    subst e
    refine ic_P (c_li_sameRowsEnd l h a y hy f ha) (Nat.le_refl _) (Nat.le_refl _) ?_
    exact And.intro rfl (And.intro rfl (And.intro rfl rfl))
  · have e : w = 0 := by rw [ht] at q; omega
    subst e
    exact And.intro rfl (And.intro rfl (And.intro rfl rfl))
  · have e : w = 1 := by rw [ht] at q; omega
    subst e
    exact And.intro rfl (And.intro rfl (And.intro rfl rfl))
  · have e : w = 2 := by rw [ht] at q; omega
    subst e
    refine Exists.intro 64 (Exists.intro f (And.intro ha (And.intro (in64 (by omega)) ?_)))
    rw [cl64 hy]
    refine ic_P (c_ro_runEnd l h _ x) (Nat.le_refl _) (Nat.le_refl _) ?_
    exact And.intro rfl (And.intro rfl (And.intro rfl rfl))
/-- where boxes begin in row y -/
def bxs (f : Nat → Int64) (y : Nat) : Int64 := if f y = rwB f y then 0 else xst (f y)
def byn (f : Nat → Int64) : Nat → Nat := sm fun y => cn (bb (bxs f y)) 64
theorem byn_le (f : Nat → Int64) {y : Nat} (h : y ≤ 64) : byn f y ≤ 4096 := Nat.le_trans (sm_mono _ h) (sm_le (fun i => cn_le _ 64) 64)
theorem byn_s (f : Nat → Int64) (y : Nat) : byn f (y + 1) = byn f y + cn (bb (bxs f y)) 64 := rfl
theorem bxs_no {f : Nat → Int64} {y : Nat} (h : f y = rwB f y) : cn (bb (bxs f y)) 64 = 0 := by
  unfold bxs
  rw [if_pos h]
  exact cn_none (fun i _ => bb_0 i)
set_option maxRecDepth 20000 in
theorem c_li_boxFact (l : Launch) (h : hp_H) (a y x what : Nat) (hy : y < 64) (hx : x < 64) (hw : what < 4) (f : Nat → Int64) (ha : h[a]? = some (LA 64 f)) (hb : bb (bxs f y) x = true) :
    hp_M l Y_li_boxFact [.ref a, .int (nI (byn f y + cn (bb (bxs f y)) x)), .int (nI what)] h true 0 0 (hq_P (.inl (some (.int (xbf f y x what)))) h) := by
  refine hp_start (T := T_li_boxFact) (by decide) rfl (fun σ => Nat.le_of_ble_eq_true rfl) (fun G C => ?_)
  generalize hk : byn f y + cn (bb (bxs f y)) x = k
  have hk2 : k < 5000 := by
    have h1 := byn_le f (y := y) (by omega)
    have h2 := cn_le (bb (bxs f y)) x
    omega
  have key : ∀ (m i : Nat), i + m = y → hp_W G 5 [(0, .ref a), (1, .int (nI k)), (2, .int (nI what)), (3, .int (nI (k - byn f i))), (4, .int (nI i))] [] h true 0 0 := by
    intro m
    induction m with
    | zero =>
      intro i hi
      have e : i = y := by omega
      subst e
      have hc := cn_in hx hb
      have e2 : k - byn f i = cn (bb (bxs f i)) x := by omega
      have h4 := cn_le (bb (bxs f i)) 64
      have hne : ¬ f i = rwB f i := fun q => by rw [bxs_no q] at hc; omega
      have hbx : bxs f i = xst (f i) := if_neg hne
      rw [hbx] at hc e2 h4 hb
      refine hp_run_sound hp_co V_li_boxFact C (fun _ _ _ _ _ _ _ hq => hq) [5] 40 _ _ _ _ _ _ _ ?_
      refine And.intro (fun c => absurd c (nI_ge (b := 64) (by omega) (by decide))) (fun c => And.intro (fun c => absurd c (nI_pos (by omega))) (fun c => ?_))
      refine Exists.intro 64 (Exists.intro f (And.intro ha (And.intro (in64 (by omega)) ?_)))
      refine ic_P (c_rowB l h a i (by omega) f ha) (Nat.le_refl _) (Nat.le_refl _) ?_
      rw [cl64 hy]
      refine And.intro (fun c => absurd ((lg_cmp_eq _ _).mp c) hne) (fun c => ?_)
      refine Exists.intro 64 (Exists.intro f (And.intro ha (And.intro (in64 (by omega)) ?_)))
      rw [cl64 hy]
      refine ic_P (c_ro_starts l h _) (Nat.le_refl _) (Nat.le_refl _) ?_
      refine ic_P (c_jl_bitCount l h _) (Nat.le_refl _) (Nat.le_refl _) ?_
      refine And.intro (fun c => absurd c (nI_ge (by omega) (by omega))) (fun c => ?_)
      rw [e2]
      refine ic_P (c_ro_placeOf l h _ _ (by omega)) (Nat.le_refl _) (Nat.le_refl _) ?_
      rw [xpl_is hx hb rfl]
      refine ic_P (c_li_boxFactAt l h a i x what (by omega) hw f ha) (Nat.le_refl _) (Nat.le_refl _) ?_
      exact And.intro rfl (And.intro rfl (And.intro rfl rfl))
    | succ m ih =>
      intro i hi
      have h1 : byn f (i + 1) ≤ byn f y := sm_mono _ (by omega)
      have h2 := byn_s f i
      have h4 := cn_le (bb (bxs f i)) 64
      have hW := ih (i + 1) (by omega)
      refine hp_run_sound hp_co V_li_boxFact C (fun _ _ _ _ _ _ _ hq => hq) [5] 40 _ _ _ _ _ _ _ ?_
      refine And.intro (fun c => absurd c (nI_ge (b := 64) (by omega) (by decide))) (fun c => And.intro (fun c => absurd c (nI_pos (by omega))) (fun c => ?_))
      refine Exists.intro 64 (Exists.intro f (And.intro ha (And.intro (in64 (by omega)) ?_)))
      refine ic_P (c_rowB l h a i (by omega) f ha) (Nat.le_refl _) (Nat.le_refl _) ?_
      rw [cl64 (show i < 64 by omega)]
      refine And.intro (fun c => ?_) (fun c => ?_)
      · have hz := bxs_no ((lg_cmp_eq _ _).mp c)
        rw [h2, hz, Nat.add_zero, ← nI_1 i] at hW
        exact hW
      · have hne : ¬ f i = rwB f i := fun q => c ((lg_cmp_eq _ _).mpr q)
        have hbx : bxs f i = xst (f i) := if_neg hne
        rw [hbx] at h2 h4
        refine Exists.intro 64 (Exists.intro f (And.intro ha (And.intro (in64 (by omega)) ?_)))
        rw [cl64 (show i < 64 by omega)]
        refine ic_P (c_ro_starts l h _) (Nat.le_refl _) (Nat.le_refl _) ?_
        refine ic_P (c_jl_bitCount l h _) (Nat.le_refl _) (Nat.le_refl _) ?_
        refine And.intro (fun c => ?_) (fun c => absurd (nI_le (by omega) (by omega)) c)
        have e : nI (k - byn f (i + 1)) = nI (k - byn f i) - nI (cn (bb (xst (f i))) 64) := by
          rw [pk_sub (by omega), h2, Nat.sub_sub]
        rw [← nI_1 i, e] at hW
        refine hp_W_pick [0, 1, 2, 3, 4] ?_
        exact hW
  have h0 := key y 0 (by omega)
  refine hp_run_sound hp_co V_li_boxFact C (fun _ _ _ _ _ _ _ hq => hq) [5] 8 _ _ _ _ _ _ _ ?_
  exact h0
set_option maxRecDepth 20000 in
theorem c_li_boxFact_no (l : Launch) (h : hp_H) (a what : Nat) (k : Int32) (f : Nat → Int64) (ha : h[a]? = some (LA 64 f)) (hk : k < 0 ∨ nI (byn f 64) ≤ k) :
    hp_M l Y_li_boxFact [.ref a, .int k, .int (nI what)] h true 1 6 (hq_P (.inr 0) h) := by
  refine hp_start (T := T_li_boxFact) (by decide) rfl (fun σ => Nat.le_of_ble_eq_true rfl) (fun G C => ?_)
  have thr : ∀ lv, hp_W G 79 lv [] h true 0 0 := fun lv => hq_throw (ik := 49) (is := 62) (ic := 53) (ci := 0) (text := "no such box") V_li_boxFact C tw_li (by decide) rfl rfl rfl rfl rfl rfl (by decide) (by decide) (by decide) (by decide) ⟨rfl, rfl⟩
  by_cases hk0 : k < 0
  · refine hp_run_sound hp_co V_li_boxFact C (fun _ _ _ _ _ _ _ hq => hq) [79] 20 _ _ _ _ _ _ _ ?_
    refine And.intro (fun c => thr _) (fun c => And.intro (fun c => thr _) (fun c => absurd hk0 c))
  · obtain ⟨q, hq1, hq2⟩ := nI_of hk0
    subst hq2
    have hq : byn f 64 ≤ q := by
      rcases hk with e | e
      · exact absurd e hk0
      · exact (nI_leI (by have := byn_le f (y := 64) (by omega); omega) hq1).mp e
    have key : ∀ (m i : Nat), i + m = 64 → hp_W G 5 [(0, .ref a), (1, .int (nI q)), (2, .int (nI what)), (3, .int (nI (q - byn f i))), (4, .int (nI i))] [] h true 0 0 := by
      intro m
      induction m with
      | zero =>
        intro i hi
        have e : i = 64 := by omega
        subst e
        refine hp_run_sound hp_co V_li_boxFact C (fun _ _ _ _ _ _ _ hq => hq) [79] 40 _ _ _ _ _ _ _ ?_
        refine And.intro (fun c => thr _) (fun c => absurd (nI_le (Nat.le_refl 64) (by decide)) c)
      | succ m ih =>
        intro i hi
        have h1 : byn f (i + 1) ≤ byn f 64 := sm_mono _ (by omega)
        have h2 := byn_s f i
        have h4 := cn_le (bb (bxs f i)) 64
        have hW := ih (i + 1) (by omega)
        refine hp_run_sound hp_co V_li_boxFact C (fun _ _ _ _ _ _ _ hq => hq) [5, 79] 40 _ _ _ _ _ _ _ ?_
        refine And.intro (fun c => absurd c (nI_ge (b := 64) (by omega) (by decide))) (fun c => And.intro (fun c => absurd c (nI_pos (by omega))) (fun c => ?_))
        refine Exists.intro 64 (Exists.intro f (And.intro ha (And.intro (in64 (by omega)) ?_)))
        refine ic_P (c_rowB l h a i (by omega) f ha) (Nat.le_add_left _ _) (Nat.le_add_left _ _) ?_
        rw [cl64 (show i < 64 by omega)]
        refine And.intro (fun c => ?_) (fun c => ?_)
        · have hz := bxs_no ((lg_cmp_eq _ _).mp c)
          rw [h2, hz, Nat.add_zero, ← nI_1 i] at hW
          exact hW
        · have hne : ¬ f i = rwB f i := fun q => c ((lg_cmp_eq _ _).mpr q)
          have hbx : bxs f i = xst (f i) := if_neg hne
          rw [hbx] at h2 h4
          refine Exists.intro 64 (Exists.intro f (And.intro ha (And.intro (in64 (by omega)) ?_)))
          rw [cl64 (show i < 64 by omega)]
          refine ic_P (c_ro_starts l h _) (Nat.le_add_left _ _) (Nat.le_add_left _ _) ?_
          refine ic_P (c_jl_bitCount l h _) (Nat.le_add_left _ _) (Nat.le_add_left _ _) ?_
          refine And.intro (fun c => ?_) (fun c => absurd (nI_le (by omega) (by omega)) c)
          have e : nI (q - byn f (i + 1)) = nI (q - byn f i) - nI (cn (bb (xst (f i))) 64) := by
            rw [pk_sub (by omega), h2, Nat.sub_sub]
          rw [← nI_1 i, e] at hW
          refine hp_W_pick [0, 1, 2, 3, 4] ?_
          exact hW
    have h0 := key 64 0 (by omega)
    refine hp_run_sound hp_co V_li_boxFact C (fun _ _ _ _ _ _ _ hq => hq) [5] 8 _ _ _ _ _ _ _ ?_
    exact h0
/-! Lines: corners -/
def xcc (b a : Int64) : Int64 := ((b ^^^ (b <<< ((nI 1).toInt64 &&& 63))) ||| (a ^^^ (a <<< ((nI 1).toInt64 &&& 63)))) &&& ((b ^^^ a) ||| ((b ^^^ a) <<< ((nI 1).toInt64 &&& 63)))
set_option maxRecDepth 20000 in
theorem c_li_cornersBetween (l : Launch) (h : hp_H) (b a : Int64) : hp_M l Y_li_cornersBetween [.long b, .long a] h true 0 0 (hq_P (.inl (some (.long (xcc b a)))) h) := by
  refine hp_start (T := T_li_cornersBetween) (by decide) rfl (fun σ => Nat.le_of_ble_eq_true rfl) (fun G C => ?_)
  refine hp_run_sound hp_co V_li_cornersBetween C (fun _ _ _ _ _ _ _ hq => hq) [] 40 _ _ _ _ _ _ _ ?_
  exact And.intro rfl (And.intro rfl (And.intro rfl rfl))
theorem neg_63 (x : Int64) : x < 0 ↔ bb x 63 = true := by
  rw [Int64.lt_iff_toInt_lt]
  show x.toBitVec.toInt < 0 ↔ x.toBitVec.getLsbD 63 = true
  have h := BitVec.msb_eq_toInt (x := x.toBitVec)
  rw [BitVec.msb_eq_getLsbD_last] at h
  rw [h]
  simp
