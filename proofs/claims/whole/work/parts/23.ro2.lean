/-! Rows: functions of one row -/
def xst (x : Int64) : Int64 := x &&& ((x <<< ((nI 1).toInt64 &&& 63)) ^^^ (-1))
theorem bb_xst (x : Int64) {i : Nat} (hi : i < 64) : bb (xst x) i = (bb x i && !(decide (1 ≤ i) && bb x (i - 1))) := by
  unfold xst
  rw [bb_and, bb_not _ hi, bb_shl (by decide) x hi]
def xfr (x : Int64) : Int64 := x &&& ((x + (x &&& (-x))) ^^^ (-1))
def xlow (x : Int64) : Int64 := x &&& (-x)
theorem nn_xlow (x : Int64) : nn (xlow x) = nn x &&& (2 ^ 64 - nn x) := by
  unfold xlow
  rw [nn_and, nn_neg]
  by_cases h : nn x = 0
  · rw [h]; rfl
  · rw [Nat.mod_eq_of_lt (by omega)]
theorem xfr_spec {x : Int64} (h : x ≠ 0) : ∃ p q, p < q ∧ q ≤ 64 ∧ (∀ i, i < p → bb x i = false) ∧ (∀ i, p ≤ i → i < q → bb x i = true) ∧ bb x q = false ∧ ∀ i, i < 64 → bb (xfr x) i = decide (p ≤ i ∧ i < q) := by
  have h0 : nn x ≠ 0 := fun e => h (nn_inj e)
  obtain ⟨p, q, h1, h2, h3, h4, h5, h6, h7⟩ := run_of h0 (nn_lt x)
  refine ⟨p, q, h1, h2, h3, h4, h5, fun i hi => ?_⟩
  have e := h7 i hi
  unfold xfr
  rw [bb_and, bb_not _ hi, ← nn_bit (x + _), nn_add]
  have e2 : nn (x &&& (-x)) = 2 ^ p := by rw [← h6]; exact nn_xlow x
  rw [e2]
  exact e
def xfp (x : Int64) : Nat := cn (bb (xlow x - 1)) 64
theorem cn_lt (p : Nat) : ∀ n, cn (fun i => decide (i < p)) n = if n ≤ p then n else p
  | 0 => by rw [if_pos (Nat.zero_le _)]; rfl
  | n + 1 => by
    show cn _ n + _ = _
    rw [cn_lt p n]
    by_cases h : n < p
    · rw [if_pos (by omega), if_pos (by omega)]
      simp [h]
    · rw [if_neg (show ¬ n + 1 ≤ p by omega)]
      simp only [h, decide_false, Bool.toNat_false, Nat.add_zero]
      split
      · omega
      · rfl
theorem xfp_0 : xfp 0 = 64 := by decide +kernel
theorem xfp_spec {x : Int64} (h : x ≠ 0) : xfp x < 64 ∧ bb x (xfp x) = true ∧ ∀ i, i < xfp x → bb x i = false := by
  have h0 : nn x ≠ 0 := fun e => h (nn_inj e)
  obtain ⟨p, q, h1, h2, h3, h4, h5, h6, h7⟩ := run_of h0 (nn_lt x)
  have e : xfp x = p := by
    unfold xfp
    have hb : ∀ i, i < 64 → bb (xlow x - 1) i = decide (i < p) := by
      intro i hi
      rw [← nn_bit, nn_sub, nn_xlow, h6, nn_1]
      have hp := Nat.two_pow_pos p
      have hp2 : 2 ^ p ≤ 2 ^ 64 := Nat.pow_le_pow_right (by decide) (by omega)
      have e1 : 2 ^ 64 - 1 + 2 ^ p = (2 ^ p - 1) + 2 ^ 64 := by omega
      have hp3 : 2 ^ p < 2 ^ 64 := Nat.pow_lt_pow_right (by decide) (by omega)
      rw [e1, Nat.add_mod_right, Nat.mod_eq_of_lt (by omega), Nat.testBit_two_pow_sub_one]
    rw [cn_congr 64 hb, cn_lt, if_neg (by omega)]
  rw [e]
  exact ⟨by omega, h4 p (Nat.le_refl _) h1, h3⟩
/-- the lowest bit, by what it is -/
theorem xfp_is {x : Int64} {p : Nat} (h1 : p < 64) (h2 : bb x p = true) (h3 : ∀ i, i < p → bb x i = false) : xfp x = p := by
  have h : x ≠ 0 := fun e => by rw [e, bb_0] at h2; cases h2
  obtain ⟨a, b, c⟩ := xfp_spec h
  rcases Nat.lt_trichotomy (xfp x) p with q | q | q
  · rw [h3 _ q] at b; cases b
  · exact q
  · rw [c _ q] at h2; cases h2
theorem xfp_none {x : Int64} (h : ∀ i, i < 64 → bb x i = false) : xfp x = 64 := by
  have e : x = 0 := bb_ext (fun i hi => by rw [h i hi, bb_0])
  rw [e, xfp_0]
def xcl (x : Int64) : Int64 := x &&& (x - 1)
theorem bb_xcl {x : Int64} (h : x ≠ 0) (i : Nat) : bb (xcl x) i = (bb x i && !decide (i = xfp x)) := by
  have h0 : nn x ≠ 0 := fun e => h (nn_inj e)
  obtain ⟨p, u, hn⟩ := low_of (nn x) h0
  have hp : xfp x = p := by
    refine xfp_is ?_ ?_ ?_
    · exact (low_lt (u := u) (by rw [← hn]; exact nn_lt x)).1
    · rw [← nn_bit, hn, tb_low]; simp
    · intro i hi
      rw [← nn_bit, hn, tb_low]
      have : ¬ p ≤ i := by omega
      simp [this]
  unfold xcl
  rw [← nn_bit, nn_and, nn_sub, nn_1]
  have h1 := nn_lt x
  have e1 : 2 ^ 64 - 1 + nn x = (nn x - 1) + 2 ^ 64 := by omega
  rw [e1, Nat.add_mod_right, Nat.mod_eq_of_lt (by omega), low_clear hn, hp]
  rfl
theorem xcl_0 : xcl 0 = 0 := by decide
theorem cn_mono (f : Nat → Bool) : ∀ {a b : Nat}, a ≤ b → cn f a ≤ cn f b := by
  intro a b h
  induction b with
  | zero => rw [Nat.le_zero.mp h]; exact Nat.le_refl _
  | succ b ih =>
    rcases Nat.lt_or_ge a (b + 1) with q | q
    · exact Nat.le_trans (ih (by omega)) (Nat.le_add_right _ _)
    · rw [show a = b + 1 by omega]; exact Nat.le_refl _
theorem cn_none {f : Nat → Bool} : ∀ {n : Nat}, (∀ i, i < n → f i = false) → cn f n = 0
  | 0, _ => rfl
  | n + 1, h => by
    show cn f n + _ = 0
    rw [cn_none (fun i hi => h i (by omega)), h n (by omega)]
    rfl
theorem cn_s (f : Nat → Bool) (n : Nat) : cn f (n + 1) = cn f n + (f n).toNat := rfl
/-- so many of the lowest bits cleared -/
def xit (x : Int64) : Nat → Int64
  | 0 => x
  | k + 1 => xcl (xit x k)
theorem bb_xit (x : Int64) : ∀ (k i : Nat), i < 64 → bb (xit x k) i = (bb x i && decide (k ≤ cn (bb x) i))
  | 0, i, _ => by simp [xit]
  | k + 1, i, hi => by
    show bb (xcl (xit x k)) i = _
    by_cases h : xit x k = 0
    · rw [h, xcl_0, bb_0]
      have h1 := bb_xit x k i hi
      rw [h, bb_0] at h1
      cases hb : bb x i with
      | false => rfl
      | true =>
        rw [hb, Bool.true_and] at h1
        have : ¬ k ≤ cn (bb x) i := of_decide_eq_false h1.symm
        rw [Bool.true_and]
        exact (decide_eq_false (by omega)).symm
    · obtain ⟨p1, p2, p3⟩ := xfp_spec h
      rw [bb_xcl h, bb_xit x k i hi]
      generalize xfp (xit x k) = p at p1 p2 p3
      have hp := bb_xit x k p p1
      rw [p2] at hp
      have hp2 := hp.symm
      rw [Bool.and_eq_true, decide_eq_true_eq] at hp2
      obtain ⟨hpb, hpk⟩ := hp2
      have hpe : cn (bb x) p = k := by
        rcases Nat.lt_or_ge k (cn (bb x) p) with q | q
        · exfalso
          -- some bit below p has number k
          have : ∃ j, j < p ∧ bb x j = true ∧ k ≤ cn (bb x) j := by
            clear p2 p3 hp hpb hpk
            induction p with
            | zero => exact absurd q (Nat.not_lt_zero _)
            | succ p ih =>
              rw [cn_s] at q
              cases hb : bb x p with
              | true =>
                rw [hb] at q
                exact ⟨p, Nat.lt_succ_self p, hb, by simp at q; omega⟩
              | false =>
                rw [hb] at q
                obtain ⟨j, j1, j2⟩ := ih (by omega) (by simpa using q)
                exact ⟨j, by omega, j2⟩
          obtain ⟨j, j1, j2, j3⟩ := this
          have h4 := p3 j j1
          rw [bb_xit x k j (by omega), j2, Bool.true_and] at h4
          exact absurd j3 (of_decide_eq_false h4)
        · omega
      by_cases e : i = p
      · subst e
        simp [hpe]
      · simp only [e, decide_false, Bool.not_false, Bool.and_true]
        cases hb : bb x i with
        | false => rfl
        | true =>
          rw [Bool.true_and, Bool.true_and]
          rcases Nat.lt_or_ge i p with q | q
          · have h4 := p3 i q
            rw [bb_xit x k i hi, hb, Bool.true_and] at h4
            have h5 := of_decide_eq_false h4
            rw [decide_eq_false h5, decide_eq_false (by omega)]
          · have h6 : cn (bb x) (p + 1) ≤ cn (bb x) i := cn_mono _ (by omega)
            rw [cn_s, hpb, hpe] at h6
            rw [decide_eq_true (show k ≤ cn (bb x) i by simp at h6; omega), decide_eq_true (show k + 1 ≤ cn (bb x) i by simpa using h6)]
/-- the place of bit number k -/
theorem xpl_is {x : Int64} {k p : Nat} (h1 : p < 64) (h2 : bb x p = true) (h3 : cn (bb x) p = k) : xfp (xit x k) = p := by
  refine xfp_is h1 ?_ ?_
  · rw [bb_xit x k p h1, h2, h3]; simp
  · intro i hi
    rw [bb_xit x k i (by omega)]
    cases hb : bb x i with
    | false => rfl
    | true =>
      rw [Bool.true_and]
      refine decide_eq_false fun q => ?_
      have h6 : cn (bb x) (i + 1) ≤ cn (bb x) p := cn_mono _ (by omega)
      rw [cn_s, hb, h3] at h6
      simp at h6
      omega
/-! the contracts of these -/
set_option maxRecDepth 20000 in
theorem c_ro_starts (l : Launch) (h : hp_H) (x : Int64) : hp_M l Y_ro_starts [.long x] h true 0 0 (hq_P (.inl (some (.long (xst x)))) h) := by
  refine hp_start (T := T_ro_starts) (by decide) rfl (fun σ => Nat.le_of_ble_eq_true rfl) (fun G C => ?_)
  refine hp_run_sound hp_co V_ro_starts C (fun _ _ _ _ _ _ _ hq => hq) [] 20 _ _ _ _ _ _ _ ?_
  exact And.intro rfl (And.intro rfl (And.intro rfl rfl))
set_option maxRecDepth 20000 in
theorem c_ro_firstRun (l : Launch) (h : hp_H) (x : Int64) : hp_M l Y_ro_firstRun [.long x] h true 0 0 (hq_P (.inl (some (.long (xfr x)))) h) := by
  refine hp_start (T := T_ro_firstRun) (by decide) rfl (fun σ => Nat.le_of_ble_eq_true rfl) (fun G C => ?_)
  refine hp_run_sound hp_co V_ro_firstRun C (fun _ _ _ _ _ _ _ hq => hq) [] 20 _ _ _ _ _ _ _ ?_
  exact And.intro rfl (And.intro rfl (And.intro rfl rfl))
set_option maxRecDepth 20000 in
theorem c_ro_countRuns (l : Launch) (h : hp_H) (x : Int64) : hp_M l Y_ro_countRuns [.long x] h true 0 0 (hq_P (.inl (some (.int (nI (cn (bb (xst x)) 64))))) h) := by
  refine hp_start (T := T_ro_countRuns) (by decide) rfl (fun σ => Nat.le_of_ble_eq_true rfl) (fun G C => ?_)
  refine hp_run_sound hp_co V_ro_countRuns C (fun _ _ _ _ _ _ _ hq => hq) [] 20 _ _ _ _ _ _ _ ?_
  refine ic_P (c_ro_starts l h x) (Nat.le_refl _) (Nat.le_refl _) ?_
  refine ic_P (c_jl_bitCount l h (xst x)) (Nat.le_refl _) (Nat.le_refl _) ?_
  exact And.intro rfl (And.intro rfl (And.intro rfl rfl))
set_option maxRecDepth 20000 in
theorem c_ro_firstPlace (l : Launch) (h : hp_H) (x : Int64) : hp_M l Y_ro_firstPlace [.long x] h true 0 0 (hq_P (.inl (some (.int (nI (xfp x))))) h) := by
  refine hp_start (T := T_ro_firstPlace) (by decide) rfl (fun σ => Nat.le_of_ble_eq_true rfl) (fun G C => ?_)
  refine hp_run_sound hp_co V_ro_firstPlace C (fun _ _ _ _ _ _ _ hq => hq) [] 20 _ _ _ _ _ _ _ ?_
  refine ic_P (c_jl_bitCount l h (xlow x - 1)) (Nat.le_refl _) (Nat.le_refl _) ?_
  exact And.intro rfl (And.intro rfl (And.intro rfl rfl))
set_option maxRecDepth 20000 in
theorem c_ro_placeOf (l : Launch) (h : hp_H) (x : Int64) (k : Nat) (hk : k < 2 ^ 31) : hp_M l Y_ro_placeOf [.long x, .int (nI k)] h true 0 0 (hq_P (.inl (some (.int (nI (xfp (xit x k)))))) h) := by
  refine hp_start (T := T_ro_placeOf) (by decide) rfl (fun σ => Nat.le_of_ble_eq_true rfl) (fun G C => ?_)
  have key : ∀ (m i : Nat), i + m = k → hp_W G 5 [(0, .long x), (2, .int (nI k)), (3, .long (xit x i)), (5, .int (nI i))] [] h true 0 0 := by
    intro m
    induction m with
    | zero =>
      intro i hi
      have e : i = k := by omega
      subst e
      refine hp_run_sound hp_co V_ro_placeOf C (fun _ _ _ _ _ _ _ hq => hq) [5] 6 _ _ _ _ _ _ _ ?_
      refine And.intro (fun c => ?_) (fun c => absurd (nI_le (Nat.le_refl i) hk) c)
      refine ic_P (c_ro_firstPlace l h (xit x i)) (Nat.le_refl _) (Nat.le_refl _) ?_
      exact And.intro rfl (And.intro rfl (And.intro rfl rfl))
    | succ m ih =>
      intro i hi
      refine hp_run_sound hp_co V_ro_placeOf C (fun _ _ _ _ _ _ _ hq => hq) [5] 14 _ _ _ _ _ _ _ ?_
      refine And.intro (fun c => absurd c (nI_ge (by omega) hk)) (fun c => ?_)
      have hW := ih (i + 1) (by omega)
      rw [← nI_1 i] at hW
      exact hW
  refine hp_run_sound hp_co V_ro_placeOf C (fun _ _ _ _ _ _ _ hq => hq) [5] 10 _ _ _ _ _ _ _ ?_
  exact key k 0 (by omega)
set_option maxRecDepth 20000 in
theorem c_ro_row (l : Launch) (h : hp_H) (a : Nat) (y : Int32) (f : Nat → Int64) (ha : h[a]? = some (.inl (.long, 64, .inr (.inl f)))) :
    hp_M l Y_ro_row [.ref a, .int y] h true 0 0 (hq_P (.inl (some (.long (if 0 ≤ y ∧ y < 64 then f y.toNatClampNeg else 0)))) h) := by
  refine hp_start (T := T_ro_row) (by decide) rfl (fun σ => Nat.le_of_ble_eq_true rfl) (fun G C => ?_)
  refine hp_run_sound hp_co V_ro_row C (fun _ _ _ _ _ _ _ hq => hq) [] 20 _ _ _ _ _ _ _ ?_
  refine And.intro (fun c1 => ?_) (fun c1 => And.intro (fun c2 => ?_) (fun c2 => ?_))
  · refine And.intro rfl (And.intro rfl (And.intro ?_ rfl))
    rw [if_neg (fun q => absurd c1 (Int32.not_lt.mpr q.1))]
    rfl
  · refine And.intro rfl (And.intro rfl (And.intro ?_ rfl))
    rw [if_neg (fun q => absurd q.2 (Int32.not_lt.mpr c2))]
    rfl
  · have hin : vp_in y 64 := by
      rw [vp_in_iff]
      have h1 := Int32.le_iff_toInt_le.mp (Int32.not_lt.mp c1)
      have h2 := Int32.lt_iff_toInt_lt.mp (Int32.not_le.mp c2)
      exact ⟨h1, h2⟩
    refine Exists.intro 64 (Exists.intro f (And.intro ha (And.intro hin ?_)))
    refine And.intro rfl (And.intro rfl (And.intro ?_ rfl))
    rw [if_pos ⟨Int32.not_lt.mp c1, Int32.not_le.mp c2⟩]
