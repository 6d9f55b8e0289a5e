/-! Parts: joinContact -/
theorem xlow_p {x : Int64} (h : x ≠ 0) : nn (xlow x) = 2 ^ xfp x := by
  have h0 : nn x ≠ 0 := fun e => h (nn_inj e)
  obtain ⟨p, u, hn⟩ := low_of (nn x) h0
  have hp : xfp x = p := by
    refine xfp_is ?_ ?_ ?_
    · exact (low_lt (u := u) (by rw [← hn]; exact nn_lt x)).1
    · rw [← nn_bit, hn, tb_low]; simp
    · intro i hi
      rw [← nn_bit, hn, tb_low]
      have : ¬ p ≤ i := by omega
      simp [this]
  rw [nn_xlow, low_and hn (nn_lt x), hp]
theorem bb_xlow {x : Int64} (h : x ≠ 0) (i : Nat) : bb (xlow x) i = decide (xfp x = i) := by
  rw [← nn_bit, xlow_p h, Nat.testBit_two_pow]
theorem bb_xlow1 {x : Int64} (h : x ≠ 0) {i : Nat} (hi : i < 64) : bb (xlow x - 1) i = decide (i < xfp x) := by
  have hl := (xfp_spec h).1
  rw [← nn_bit, nn_sub, xlow_p h, nn_1]
  have hp := Nat.two_pow_pos (xfp x)
  have hp3 : 2 ^ xfp x < 2 ^ 64 := Nat.pow_lt_pow_right (by decide) hl
  have e1 : 2 ^ 64 - 1 + 2 ^ xfp x = (2 ^ xfp x - 1) + 2 ^ 64 := by omega
  rw [e1, Nat.add_mod_right, Nat.mod_eq_of_lt (by omega), Nat.testBit_two_pow_sub_one]
theorem bb_upto {x : Int64} (h : x ≠ 0) {i : Nat} (hi : i < 64) : bb (xlow x ||| (xlow x - 1)) i = decide (i ≤ xfp x) := by
  rw [bb_or, bb_xlow h, bb_xlow1 h hi]
  by_cases q : i ≤ xfp x
  · rw [decide_eq_true q]
    rcases Nat.lt_or_ge i (xfp x) with c | c
    · rw [decide_eq_true c, Bool.or_true]
    · rw [decide_eq_true (show xfp x = i by omega), Bool.true_or]
  · rw [decide_eq_false q, decide_eq_false (by omega), decide_eq_false (by omega)]
    rfl
theorem xor_xlow (x : Int64) : x ^^^ xlow x = xcl x := by
  by_cases h : x = 0
  · subst h; decide
  · refine bb_ext (fun i hi => ?_)
    rw [bb_xor, bb_xlow h, bb_xcl h]
    by_cases e : i = xfp x
    · rw [e, (xfp_spec h).2.1]; simp
    · rw [decide_eq_false (fun q => e q.symm), decide_eq_false e]; simp
theorem cn_cut (f : Nat → Bool) (p : Nat) : ∀ n, p < n → cn (fun i => f i && decide (i ≤ p)) n = cn f (p + 1)
  | 0, h => absurd h (Nat.not_lt_zero _)
  | n + 1, h => by
    rcases Nat.lt_or_ge p n with q | q
    · rw [cn_s, cn_cut f p n q, decide_eq_false (show ¬ n ≤ p by omega), Bool.and_false]
      rfl
    · have e : p = n := by omega
      subst e
      exact cn_congr _ (fun i hi => by rw [decide_eq_true (show i ≤ p by omega), Bool.and_true])
/-- the number of the run that place p lies in -/
def rix (z : Int64) (p : Nat) : Nat := cn (bb (xst z)) (p + 1) - 1
theorem rix_pos (z : Int64) : ∀ p, p < 64 → bb z p = true → 1 ≤ cn (bb (xst z)) (p + 1)
  | 0, hp, h => by
    rw [cn_s, bb_xst z hp, h]
    exact Nat.le_add_left _ _
  | p + 1, hp, h => by
    cases hb : bb z p with
    | true => exact Nat.le_trans (rix_pos z p (by omega) hb) (cn_mono _ (by omega))
    | false =>
      rw [cn_s, bb_xst z hp, h, Nat.add_sub_cancel, hb]
      simp
theorem xit_lt {x : Int64} {k : Nat} (h : k < cn (bb x) 64) : xit x k ≠ 0 ∧ xfp (xit x k) < 64 ∧ bb x (xfp (xit x k)) = true ∧ cn (bb x) (xfp (xit x k)) = k := by
  have ex : ∀ n, n ≤ 64 → k < cn (bb x) n → ∃ p, p < n ∧ bb x p = true ∧ cn (bb x) p = k := by
    intro n
    induction n with
    | zero => intro _ q; exact absurd q (Nat.not_lt_zero _)
    | succ n ih =>
      intro hn q
      rcases Nat.lt_or_ge k (cn (bb x) n) with c | c
      · obtain ⟨p, p1, p2⟩ := ih (by omega) c
        exact ⟨p, by omega, p2⟩
      · rw [cn_s] at q
        cases hb : bb x n with
        | true => rw [hb] at q; exact ⟨n, by omega, hb, by simp at q; omega⟩
        | false => rw [hb] at q; simp at q; omega
  obtain ⟨p, p1, p2, p3⟩ := ex 64 (Nat.le_refl _) h
  have e := xpl_is p1 p2 p3
  refine ⟨fun q => ?_, by rw [e]; exact p1, by rw [e]; exact p2, by rw [e]; exact p3⟩
  have hb := bb_xit x k p p1
  rw [q, bb_0, p2, p3] at hb
  simp at hb
set_option maxRecDepth 20000 in
theorem c_pa_joinContact (l : Launch) (h : hp_H) (a n fb run : Nat) (x z : Int64) (g rt : Nat → Nat) (P : Nat → Nat → Prop) (hn : n ≤ 2048) (hsub : ∀ i, i < 64 → bb x i = true → bb z i = true) (hfb : fb + cn (bb (xst z)) 64 ≤ n) (hrun : run < n) (hu : uf n g rt) (hP : okc n rt P) (ha : h[a]? = some (NA 2048 g)) :
    hp_M l Y_pa_joinContact [.long x, .long z, .int (nI fb), .int (nI run), .ref a] h false 0 0 (fun q h' => q = .inl none ∧ ∃ g' rt', h' = h.set a (NA 2048 g') ∧ uf n g' rt' ∧ okc n rt' (fun u v => P u v ∨ ∃ p, p < 64 ∧ bb (xst x) p = true ∧ u = fb + rix z p ∧ v = run)) := by
  refine hp_start (T := T_pa_joinContact) (by decide) rfl (fun σ => Nat.le_of_ble_eq_true rfl) (fun G C => ?_)
  have key : ∀ (m k : Nat) (g rt : Nat → Nat), k + m = cn (bb (xst x)) 64 → uf n g rt → okc n rt (fun u v => P u v ∨ ∃ p, p < 64 ∧ bb (xst x) p = true ∧ cn (bb (xst x)) p < k ∧ u = fb + rix z p ∧ v = run) →
      hp_W G 13 [(0, .long x), (2, .long z), (4, .int (nI fb)), (5, .int (nI run)), (6, .ref a), (7, .long (xit (xst x) k)), (9, .int (nI m))] [] (h.set a (NA 2048 g)) false 0 0 := by
    intro m
    induction m with
    | zero =>
      intro k g rt hk hu hP
      refine hp_run_sound hp_co V_pa_joinContact C (fun _ _ _ _ _ _ _ hq => hq) [13] 6 _ _ _ _ _ _ _ ?_
      refine And.intro (fun c => ?_) (fun c => absurd (show nI 0 ≤ 0 by decide) c)
      refine And.intro rfl (And.intro rfl (And.intro rfl ⟨g, rt, rfl, hu, okc_iff hP (fun u v => ⟨fun q => ?_, fun q => ?_⟩)⟩))
      · rcases q with q | ⟨p, p1, p2, p3, p4⟩
        · exact Or.inl q
        · exact Or.inr ⟨p, p1, p2, p4⟩
      · rcases q with q | ⟨p, p1, p2, p4⟩
        · exact Or.inl q
        · exact Or.inr ⟨p, p1, p2, by have := cn_in p1 p2; omega, p4⟩
    | succ m ih =>
      intro k g rt hk hu hP
      have hc64 := cn_le (bb (xst x)) 64
      obtain ⟨i1, i2, i3, i4⟩ := xit_lt (x := xst x) (k := k) (by omega)
      have hxp : bb x (xfp (xit (xst x) k)) = true := by
        rw [bb_xst x i2] at i3
        rw [Bool.and_eq_true] at i3
        exact i3.1
      have hzp := hsub _ i2 hxp
      have hpos := rix_pos z _ i2 hzp
      have hup : cn (bb (xst z)) (xfp (xit (xst x) k) + 1) ≤ cn (bb (xst z)) 64 := cn_mono _ (by omega)
      refine hp_run_sound hp_co V_pa_joinContact C (fun _ _ _ _ _ _ _ hq => hq) [13] 60 _ _ _ _ _ _ _ ?_
      refine And.intro (fun c => absurd c (nI_nle (by omega) (by omega))) (fun c => ?_)
      refine ic_P (c_ro_starts l _ _) (Nat.le_refl _) (Nat.le_refl _) ?_
      refine ic_P (c_jl_bitCount l _ _) (Nat.le_refl _) (Nat.le_refl _) ?_
      have e1 : cn (bb (xst z &&& (xlow (xit (xst x) k) ||| (xlow (xit (xst x) k) - 1)))) 64 = cn (bb (xst z)) (xfp (xit (xst x) k) + 1) := by
        rw [← cn_cut _ _ 64 i2]
        exact cn_congr 64 (fun i hi => by rw [bb_and, bb_upto i1 hi])
      have e2 : nI fb + nI (cn (bb (xst z &&& (xlow (xit (xst x) k) ||| (xlow (xit (xst x) k) - 1)))) 64) - 1 = nI (fb + rix z (xfp (xit (xst x) k))) := by
        rw [e1, nI_add]
        unfold rix
        rw [show fb + cn (bb (xst z)) (xfp (xit (xst x) k) + 1) = (fb + (cn (bb (xst z)) (xfp (xit (xst x) k) + 1) - 1)) + 1 by omega, nI_pred]
      have hlt : fb + rix z (xfp (xit (xst x) k)) < n := by unfold rix; omega
      have hM := c_pa_join l (h.set a (NA 2048 g)) a n (fb + rix z (xfp (xit (xst x) k))) run g rt hn hlt hrun hu (hq_get ha)
      rw [← e2] at hM
      refine ic_Q hM (Nat.le_refl _) (Nat.le_refl _) (fun r h' hq => ?_)
      obtain ⟨rfl, g', rfl, hu'⟩ := hq
      rw [hq_set]
      have hP' := okc_mrg hP hlt hrun
      have hW := ih (k + 1) g' _ (by omega) hu' (okc_iff hP' (fun u v => ⟨fun q => ?_, fun q => ?_⟩))
      · refine hp_W_pick [0, 2, 4, 5, 6, 7, 9] ?_
        rw [show xit (xst x) (k + 1) = xit (xst x) k ^^^ xlow (xit (xst x) k) from (xor_xlow _).symm, show nI m = nI (m + 1) + (-1) from (pk_m1 m).symm] at hW
        exact hW
      · rcases q with (q | ⟨p, p1, p2, p3, p4⟩) | ⟨q1, q2⟩
        · exact Or.inl q
        · exact Or.inr ⟨p, p1, p2, by omega, p4⟩
        · exact Or.inr ⟨_, i2, i3, by omega, q1, q2⟩
      · rcases q with q | ⟨p, p1, p2, p3, p4, p5⟩
        · exact Or.inl (Or.inl q)
        · rcases Nat.lt_or_ge (cn (bb (xst x)) p) k with c2 | c2
          · exact Or.inl (Or.inr ⟨p, p1, p2, c2, p4, p5⟩)
          · have e3 := xpl_is p1 p2 (show cn (bb (xst x)) p = k by omega)
            rw [e3]
            exact Or.inr ⟨p4, p5⟩
  have h0 := key (cn (bb (xst x)) 64) 0 g rt (by omega) hu (okc_iff hP (fun u v => ⟨Or.inl, fun q => by
    rcases q with q | ⟨p, p1, p2, p3, p4⟩
    · exact q
    · exact absurd p3 (Nat.not_lt_zero _)⟩))
  rw [hq_self ha] at h0
  refine hp_run_sound hp_co V_pa_joinContact C (fun _ _ _ _ _ _ _ hq => hq) [13] 12 _ _ _ _ _ _ _ ?_
  refine ic_P (c_ro_starts l _ _) (Nat.le_refl _) (Nat.le_refl _) ?_
  refine ic_P (c_jl_bitCount l _ _) (Nat.le_refl _) (Nat.le_refl _) ?_
  exact hp_W_dirty h0
