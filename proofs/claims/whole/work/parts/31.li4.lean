/-! Lines: cornerFact -/
def cnr (f : Nat → Int64) (y x : Nat) : Bool := if x < 64 then bb (xcc (rwB f y) (rwN f y)) x else bb (rwB f y ^^^ rwN f y) 63
def cyn (f : Nat → Int64) : Nat → Nat := sm fun y => cn (cnr f y) 65
theorem cyn_le (f : Nat → Int64) {y : Nat} (h : y ≤ 65) : cyn f y ≤ 4225 := Nat.le_trans (sm_mono _ h) (sm_le (fun i => cn_le _ 65) 65)
theorem cyn_s (f : Nat → Int64) (y : Nat) : cyn f (y + 1) = cyn f y + cn (cnr f y) 65 := rfl
theorem cnr_in (f : Nat → Int64) (y : Nat) {x : Nat} (hx : x ≤ 64) : cn (cnr f y) x = cn (bb (xcc (rwB f y) (rwN f y))) x := cn_congr x (fun i hi => if_pos (by omega))
theorem cnr_65 (f : Nat → Int64) (y : Nat) : cn (cnr f y) 65 = cn (bb (xcc (rwB f y) (rwN f y))) 64 + (bb (rwB f y ^^^ rwN f y) 63).toNat := by
  rw [cn_s, cnr_in f y (Nat.le_refl _)]
  rfl
set_option maxRecDepth 20000 in
theorem c_li_cornerFact (l : Launch) (h : hp_H) (a y x ax : Nat) (hy : y ≤ 64) (hx : x ≤ 64) (hax : ax < 2) (f : Nat → Int64) (ha : h[a]? = some (LA 64 f)) (hb : cnr f y x = true) :
    hp_M l Y_li_cornerFact [.ref a, .int (nI (cyn f y + cn (cnr f y) x)), .int (nI ax)] h true 0 0 (hq_P (.inl (some (.int (nI (if ax = 1 then y else x))))) h) := by
  refine hp_start (T := T_li_cornerFact) (by decide) rfl (fun σ => Nat.le_of_ble_eq_true rfl) (fun G C => ?_)
  generalize hk : cyn f y + cn (cnr f y) x = k
  have hk2 : k < 5000 := by
    have h1 := cyn_le f (y := y) (by omega)
    have h2 := cn_le (cnr f y) x
    omega
  have hend : hp_W G 71 [(0, .ref a), (1, .int (nI k)), (2, .int (nI ax)), (3, .int (nI (cn (cnr f y) x))), (4, .int (nI y)), (5, .long (rwB f y)), (7, .long (rwN f y)), (9, .long (xcc (rwB f y) (rwN f y))), (11, .int (nI (cn (bb (xcc (rwB f y) (rwN f y))) 64))), (12, .int (nI (cn (cnr f y) 65)))] [] h true 0 0 := by
    have hc := cn_in (n := 65) (by omega) hb
    have h4 := cn_le (cnr f y) 65
    refine hp_run_sound hp_co V_li_cornerFact C (fun _ _ _ _ _ _ _ hq => hq) [5] 40 _ _ _ _ _ _ _ ?_
    refine And.intro (fun c => absurd c (nI_ge (by omega) (by omega))) (fun c => ?_)
    refine And.intro (fun c => ?_) (fun c => ?_)
    · have hax0 : ax = 0 := by
        rcases Nat.lt_or_ge ax 1 with q | q
        · omega
        · exact absurd (by rw [show ax = 1 by omega]; rfl) c
      refine And.intro (fun c2 => ?_) (fun c2 => ?_)
      · have hx64 : x = 64 := by
          rcases Nat.lt_or_ge x 64 with q | q
          · rw [cnr_in f y hx] at c2
            have hb2 : bb (xcc (rwB f y) (rwN f y)) x = true := by
              have := hb
              unfold cnr at this
              rw [if_pos q] at this
              exact this
            exact absurd c2 (nI_ge (cn_in q hb2) (by have := cn_le (bb (xcc (rwB f y) (rwN f y))) 64; omega))
          · omega
        refine And.intro rfl (And.intro rfl (And.intro ?_ rfl))
        rw [hax0, hx64]
        rfl
      · have hx64 : x < 64 := by
          rcases Nat.lt_or_ge x 64 with q | q
          · exact q
          · have e : x = 64 := by omega
            subst e
            rw [cnr_in f y (Nat.le_refl _)] at c2
            exact absurd (nI_le (Nat.le_refl _) (by have := cn_le (bb (xcc (rwB f y) (rwN f y))) 64; omega)) c2
        have hb2 : bb (xcc (rwB f y) (rwN f y)) x = true := by
          have := hb
          unfold cnr at this
          rw [if_pos hx64] at this
          exact this
        rw [cnr_in f y hx]
        refine ic_P (c_ro_placeOf l h _ _ (by have := cn_le (bb (xcc (rwB f y) (rwN f y))) x; omega)) (Nat.le_refl _) (Nat.le_refl _) ?_
        rw [xpl_is hx64 hb2 rfl]
        refine And.intro rfl (And.intro rfl (And.intro ?_ rfl))
        rw [hax0]
        rfl
    · have hax1 : ax = 1 := (nI_eq (b := 1) (by omega) (by decide)).mp c
      refine And.intro rfl (And.intro rfl (And.intro ?_ rfl))
      rw [hax1]
      rfl
  have key : ∀ (m i : Nat), i + m = y → hp_W G 5 [(0, .ref a), (1, .int (nI k)), (2, .int (nI ax)), (3, .int (nI (k - cyn f i))), (4, .int (nI i))] [] h true 0 0 := by
    intro m
    induction m with
    | zero =>
      intro i hi
      have e : i = y := by omega
      subst e
      have e2 : k - cyn f i = cn (cnr f i) x := by omega
      rw [e2]
      refine hp_run_sound hp_co V_li_cornerFact C (fun _ _ _ _ _ _ _ hq => hq) [71] 40 _ _ _ _ _ _ _ ?_
      refine And.intro (fun c => absurd c (nI_nlt (b := i) (a := 64) (by omega) (by decide))) (fun c => And.intro (fun c => absurd c (nI_pos (by have := cn_le (cnr f i) x; omega))) (fun c => ?_))
      refine ic_P (c_rowB l h a i (by omega) f ha) (Nat.le_refl _) (Nat.le_refl _) ?_
      refine ic_P (c_rowN l h a i (by omega) f ha) (Nat.le_refl _) (Nat.le_refl _) ?_
      refine ic_P (c_li_cornersBetween l h _ _) (Nat.le_refl _) (Nat.le_refl _) ?_
      refine ic_P (c_jl_bitCount l h _) (Nat.le_refl _) (Nat.le_refl _) ?_
      rw [cnr_65] at hend
      refine And.intro (fun c => ?_) (fun c => ?_)
      · have hb2 : bb (rwB f i ^^^ rwN f i) 63 = false := by
          cases hq : bb (rwB f i ^^^ rwN f i) 63 with
          | false => rfl
          | true => exact absurd ((lg_cmp_ge _ _).mp c) (Int64.not_le.mpr ((neg_63 _).mpr hq))
        rw [hb2] at hend
        exact hend
      · have hb2 : bb (rwB f i ^^^ rwN f i) 63 = true := (neg_63 _).mp (Int64.not_le.mp (fun q => c ((lg_cmp_ge _ _).mpr q)))
        rw [hb2] at hend
        rw [show nI (cn (bb (xcc (rwB f i) (rwN f i))) 64 + true.toNat) = nI (cn (bb (xcc (rwB f i) (rwN f i))) 64) + 1 from (nI_1 _).symm] at hend
        exact hend
    | succ m ih =>
      intro i hi
      have h1 : cyn f (i + 1) ≤ cyn f y := sm_mono _ (by omega)
      have h2 := cyn_s f i
      have h4 := cn_le (cnr f i) 65
      have hW := ih (i + 1) (by omega)
      have e : nI (k - cyn f (i + 1)) = nI (k - cyn f i) - nI (cn (cnr f i) 65) := by
        rw [pk_sub (by omega), h2, Nat.sub_sub]
      have hskip : hp_W G 71 [(0, .ref a), (1, .int (nI k)), (2, .int (nI ax)), (3, .int (nI (k - cyn f i))), (4, .int (nI i)), (5, .long (rwB f i)), (7, .long (rwN f i)), (9, .long (xcc (rwB f i) (rwN f i))), (11, .int (nI (cn (bb (xcc (rwB f i) (rwN f i))) 64))), (12, .int (nI (cn (cnr f i) 65)))] [] h true 0 0 := by
        refine hp_run_sound hp_co V_li_cornerFact C (fun _ _ _ _ _ _ _ hq => hq) [5] 40 _ _ _ _ _ _ _ ?_
        refine And.intro (fun c => ?_) (fun c => absurd (nI_le (by omega) (by omega)) c)
        rw [← nI_1 i, e] at hW
        refine hp_W_pick [0, 1, 2, 3, 4] ?_
        exact hW
      refine hp_run_sound hp_co V_li_cornerFact C (fun _ _ _ _ _ _ _ hq => hq) [71] 40 _ _ _ _ _ _ _ ?_
      refine And.intro (fun c => absurd c (nI_nlt (b := i) (a := 64) (by omega) (by decide))) (fun c => And.intro (fun c => absurd c (nI_pos (by omega))) (fun c => ?_))
      refine ic_P (c_rowB l h a i (by omega) f ha) (Nat.le_refl _) (Nat.le_refl _) ?_
      refine ic_P (c_rowN l h a i (by omega) f ha) (Nat.le_refl _) (Nat.le_refl _) ?_
      refine ic_P (c_li_cornersBetween l h _ _) (Nat.le_refl _) (Nat.le_refl _) ?_
      refine ic_P (c_jl_bitCount l h _) (Nat.le_refl _) (Nat.le_refl _) ?_
      rw [cnr_65] at hskip
      refine And.intro (fun c => ?_) (fun c => ?_)
      · have hb2 : bb (rwB f i ^^^ rwN f i) 63 = false := by
          cases hq : bb (rwB f i ^^^ rwN f i) 63 with
          | false => rfl
          | true => exact absurd ((lg_cmp_ge _ _).mp c) (Int64.not_le.mpr ((neg_63 _).mpr hq))
        rw [hb2] at hskip
        exact hskip
      · have hb2 : bb (rwB f i ^^^ rwN f i) 63 = true := (neg_63 _).mp (Int64.not_le.mp (fun q => c ((lg_cmp_ge _ _).mpr q)))
        rw [hb2] at hskip
        rw [show nI (cn (bb (xcc (rwB f i) (rwN f i))) 64 + true.toNat) = nI (cn (bb (xcc (rwB f i) (rwN f i))) 64) + 1 from (nI_1 _).symm] at hskip
        exact hskip
  have h0 := key y 0 (by omega)
  refine hp_run_sound hp_co V_li_cornerFact C (fun _ _ _ _ _ _ _ hq => hq) [5] 8 _ _ _ _ _ _ _ ?_
  exact h0
set_option maxRecDepth 20000 in
theorem c_li_cornerFact_no (l : Launch) (h : hp_H) (a : Nat) (ax k : Int32) (f : Nat → Int64) (ha : h[a]? = some (LA 64 f)) (hk : k < 0 ∨ nI (cyn f 65) ≤ k) :
    hp_M l Y_li_cornerFact [.ref a, .int k, .int ax] h true 1 6 (hq_P (.inr 0) h) := by
  refine hp_start (T := T_li_cornerFact) (by decide) rfl (fun σ => Nat.le_of_ble_eq_true rfl) (fun G C => ?_)
  have thr : ∀ lv, hp_W G 116 lv [] h true 0 0 := fun lv => hq_throw (ik := 49) (is := 72) (ic := 53) (ci := 0) (text := "no such corner") V_li_cornerFact C tw_li (by decide) rfl rfl rfl rfl rfl rfl (by decide) (by decide) (by decide) (by decide) ⟨rfl, rfl⟩
  by_cases hk0 : k < 0
  · refine hp_run_sound hp_co V_li_cornerFact C (fun _ _ _ _ _ _ _ hq => hq) [116] 20 _ _ _ _ _ _ _ ?_
    refine And.intro (fun c => thr _) (fun c => And.intro (fun c => thr _) (fun c => absurd hk0 c))
  · obtain ⟨q, hq1, hq2⟩ := nI_of hk0
    subst hq2
    have hq : cyn f 65 ≤ q := by
      rcases hk with e | e
      · exact absurd e hk0
      · exact (nI_leI (by have := cyn_le f (y := 65) (by omega); omega) hq1).mp e
    have key : ∀ (m i : Nat), i + m = 65 → hp_W G 5 [(0, .ref a), (1, .int (nI q)), (2, .int ax), (3, .int (nI (q - cyn f i))), (4, .int (nI i))] [] h true 0 0 := by
      intro m
      induction m with
      | zero =>
        intro i hi
        have e : i = 65 := by omega
        subst e
        refine hp_run_sound hp_co V_li_cornerFact C (fun _ _ _ _ _ _ _ hq => hq) [116] 40 _ _ _ _ _ _ _ ?_
        refine And.intro (fun c => thr _) (fun c => absurd (nI_lt (show 64 < 65 by decide) (by decide)) c)
      | succ m ih =>
        intro i hi
        have h1 : cyn f (i + 1) ≤ cyn f 65 := sm_mono _ (by omega)
        have h2 := cyn_s f i
        have h4 := cn_le (cnr f i) 65
        have hW := ih (i + 1) (by omega)
        have e : nI (q - cyn f (i + 1)) = nI (q - cyn f i) - nI (cn (cnr f i) 65) := by
          rw [pk_sub (by omega), h2, Nat.sub_sub]
        have hskip : hp_W G 71 [(0, .ref a), (1, .int (nI q)), (2, .int ax), (3, .int (nI (q - cyn f i))), (4, .int (nI i)), (5, .long (rwB f i)), (7, .long (rwN f i)), (9, .long (xcc (rwB f i) (rwN f i))), (11, .int (nI (cn (bb (xcc (rwB f i) (rwN f i))) 64))), (12, .int (nI (cn (cnr f i) 65)))] [] h true 0 0 := by
          refine hp_run_sound hp_co V_li_cornerFact C (fun _ _ _ _ _ _ _ hq => hq) [5] 40 _ _ _ _ _ _ _ ?_
          refine And.intro (fun c => ?_) (fun c => absurd (nI_le (by omega) (by omega)) c)
          rw [← nI_1 i, e] at hW
          refine hp_W_pick [0, 1, 2, 3, 4] ?_
          exact hW
        refine hp_run_sound hp_co V_li_cornerFact C (fun _ _ _ _ _ _ _ hq => hq) [71, 116] 40 _ _ _ _ _ _ _ ?_
        refine And.intro (fun c => absurd c (nI_nlt (b := i) (a := 64) (by omega) (by decide))) (fun c => And.intro (fun c => absurd c (nI_pos (by omega))) (fun c => ?_))
        refine ic_P (c_rowB l h a i (by omega) f ha) (Nat.le_add_left _ _) (Nat.le_add_left _ _) ?_
        refine ic_P (c_rowN l h a i (by omega) f ha) (Nat.le_add_left _ _) (Nat.le_add_left _ _) ?_
        refine ic_P (c_li_cornersBetween l h _ _) (Nat.le_add_left _ _) (Nat.le_add_left _ _) ?_
        refine ic_P (c_jl_bitCount l h _) (Nat.le_add_left _ _) (Nat.le_add_left _ _) ?_
        rw [cnr_65] at hskip
        refine And.intro (fun c => ?_) (fun c => ?_)
        · have hb2 : bb (rwB f i ^^^ rwN f i) 63 = false := by
            cases hq : bb (rwB f i ^^^ rwN f i) 63 with
            | false => rfl
            | true => exact absurd ((lg_cmp_ge _ _).mp c) (Int64.not_le.mpr ((neg_63 _).mpr hq))
          rw [hb2] at hskip
          exact hskip
        · have hb2 : bb (rwB f i ^^^ rwN f i) 63 = true := (neg_63 _).mp (Int64.not_le.mp (fun q => c ((lg_cmp_ge _ _).mpr q)))
          rw [hb2] at hskip
          rw [show nI (cn (bb (xcc (rwB f i) (rwN f i))) 64 + true.toNat) = nI (cn (bb (xcc (rwB f i) (rwN f i))) 64) + 1 from (nI_1 _).symm] at hskip
          exact hskip
    have h0 := key 65 0 (by omega)
    refine hp_run_sound hp_co V_li_cornerFact C (fun _ _ _ _ _ _ _ hq => hq) [5] 8 _ _ _ _ _ _ _ ?_
    exact h0
