/-! Parts: counts and marks -/
set_option maxRecDepth 20000 in
theorem c_pa_countShapes (l : Launch) (h : hp_H) (rc sc : Nat) (hp : h[65]? = some (PA rc sc)) : hp_M l Y_pa_countShapes [.ref 65] h true 0 0 (hq_P (.inl (some (.int (nI sc)))) h) := by
  refine hp_start (T := T_pa_countShapes) (by decide) rfl (fun σ => Nat.le_of_ble_eq_true rfl) (fun G C => ?_)
  refine hp_run_sound hp_co V_pa_countShapes C (fun _ _ _ _ _ _ _ hq => hq) [] 6 _ _ _ _ _ _ _ ?_
  refine Exists.intro _ (And.intro hp ?_)
  exact And.intro rfl (And.intro rfl (And.intro rfl rfl))
set_option maxRecDepth 20000 in
theorem c_pa_countNets (l : Launch) (h : hp_H) (n sc : Nat) (hn : n ≤ 2048) (g : Nat → Nat) (hgn : ∀ r, r < n → g r ≤ r) (hp : h[65]? = some (PA n sc)) (hg : h[68]? = some (NA 2048 g)) : hp_M l Y_pa_countNets [.ref 65] h true 0 0 (hq_P (.inl (some (.int (nI (cn (hdb g) n))))) h) := by
  refine hp_start (T := T_pa_countNets) (by decide) rfl (fun σ => Nat.le_of_ble_eq_true rfl) (fun G C => ?_)
  have key : ∀ (m i : Nat), i + m = n → hp_W G 4 [(0, .ref 65), (1, .int (nI (cn (hdb g) i))), (2, .int (nI i))] [] h true 0 0 := by
    intro m
    induction m with
    | zero =>
      intro i hi
      have e : i = n := by omega
      subst e
      refine hp_run_sound hp_co V_pa_countNets C (fun _ _ _ _ _ _ _ hq => hq) [4] 8 _ _ _ _ _ _ _ ?_
      refine Exists.intro _ (And.intro hp ?_)
      refine And.intro (fun c => ?_) (fun c => absurd (nI_le (Nat.le_refl _) (by omega)) c)
      exact And.intro rfl (And.intro rfl (And.intro rfl rfl))
    | succ m ih =>
      intro i hi
      have hW := ih (i + 1) (by omega)
      have hgi := hgn i (by omega)
      refine hp_run_sound hp_co V_pa_countNets C (fun _ _ _ _ _ _ _ hq => hq) [4] 20 _ _ _ _ _ _ _ ?_
      refine Exists.intro _ (And.intro hp ?_)
      refine And.intro (fun c => absurd c (nI_ge (by omega) (by omega))) (fun c => ?_)
      refine Exists.intro _ (And.intro hp ?_)
      refine Exists.intro .int (Exists.intro 2048 (Exists.intro _ (And.intro (Or.inl rfl) (And.intro hg (And.intro (in_nI (by omega) (by decide)) ?_)))))
      rw [nI_clamp (by omega)]
      refine And.intro (fun c => ?_) (fun c => ?_)
      · have e : ¬ g i = i := fun q => c (by rw [q])
        have hz : cn (hdb g) (i + 1) = cn (hdb g) i := by rw [cn_s]; unfold hdb; rw [decide_eq_false e]; rfl
        rw [hz, ← nI_1 i] at hW
        exact hW
      · have e : g i = i := (nI_eq (by omega) (by omega)).mp c
        have hz : nI (cn (hdb g) (i + 1)) = nI (cn (hdb g) i) + 1 := by rw [cn_s]; unfold hdb; rw [decide_eq_true e]; exact (nI_1 _).symm
        rw [hz, ← nI_1 i] at hW
        exact hW
  refine hp_run_sound hp_co V_pa_countNets C (fun _ _ _ _ _ _ _ hq => hq) [4] 8 _ _ _ _ _ _ _ ?_
  exact key n 0 (by omega)
set_option maxRecDepth 20000 in
theorem c_pa_leastOfNet (l : Launch) (h : hp_H) (n sc t r0 : Nat) (hn : n ≤ 2048) (ht : t < 2 ^ 31) (g o : Nat → Nat) (hgn : g r0 ≤ r0) (ho : ∀ r, r < n → o r < 2 ^ 31) (hr0 : r0 < n) (hor : o r0 = t) (hlt : ∀ r, r < r0 → o r ≠ t) (hp : h[65]? = some (PA n sc)) (hg : h[68]? = some (NA 2048 g)) (hoo : h[69]? = some (NA 2048 o)) :
    hp_M l Y_pa_leastOfNet [.ref 65, .int (nI t)] h true 0 0 (hq_P (.inl (some (.int (nI (o (g r0)))))) h) := by
  refine hp_start (T := T_pa_leastOfNet) (by decide) rfl (fun σ => Nat.le_of_ble_eq_true rfl) (fun G C => ?_)
  have key : ∀ (m i : Nat), i + m = r0 → hp_W G 2 [(0, .ref 65), (1, .int (nI t)), (2, .int (nI i))] [] h true 0 0 := by
    intro m
    induction m with
    | zero =>
      intro i hi
      have e : i = r0 := by omega
      subst e
      refine hp_run_sound hp_co V_pa_leastOfNet C (fun _ _ _ _ _ _ _ hq => hq) [2] 30 _ _ _ _ _ _ _ ?_
      refine Exists.intro _ (And.intro hp ?_)
      refine And.intro (fun c => absurd c (nI_ge (by omega) (by omega))) (fun c => ?_)
      refine Exists.intro _ (And.intro hp ?_)
      refine Exists.intro .int (Exists.intro 2048 (Exists.intro _ (And.intro (Or.inl rfl) (And.intro hoo (And.intro (in_nI (by omega) (by decide)) ?_)))))
      rw [nI_clamp (by omega), hor]
      refine And.intro (fun c => absurd rfl c) (fun c => ?_)
      refine Exists.intro _ (And.intro hp ?_)
      refine Exists.intro _ (And.intro hp ?_)
      refine Exists.intro .int (Exists.intro 2048 (Exists.intro _ (And.intro (Or.inl rfl) (And.intro hg (And.intro (in_nI (by omega) (by decide)) ?_)))))
      rw [nI_clamp (by omega)]
      refine Exists.intro .int (Exists.intro 2048 (Exists.intro _ (And.intro (Or.inl rfl) (And.intro hoo (And.intro (in_nI (by omega) (by decide)) ?_)))))
      rw [nI_clamp (by omega)]
      exact And.intro rfl (And.intro rfl (And.intro rfl rfl))
    | succ m ih =>
      intro i hi
      have hW := ih (i + 1) (by omega)
      refine hp_run_sound hp_co V_pa_leastOfNet C (fun _ _ _ _ _ _ _ hq => hq) [2] 30 _ _ _ _ _ _ _ ?_
      refine Exists.intro _ (And.intro hp ?_)
      refine And.intro (fun c => absurd c (nI_ge (by omega) (by omega))) (fun c => ?_)
      refine Exists.intro _ (And.intro hp ?_)
      refine Exists.intro .int (Exists.intro 2048 (Exists.intro _ (And.intro (Or.inl rfl) (And.intro hoo (And.intro (in_nI (by omega) (by decide)) ?_)))))
      rw [nI_clamp (by omega)]
      refine And.intro (fun c => ?_) (fun c => absurd ((nI_eq (ho i (by omega)) ht).mp c) (hlt i (by omega)))
      rw [← nI_1 i] at hW
      exact hW
  refine hp_run_sound hp_co V_pa_leastOfNet C (fun _ _ _ _ _ _ _ hq => hq) [2] 8 _ _ _ _ _ _ _ ?_
  exact key r0 0 (by omega)
/-! marks -/
def updB (M : Nat → Bool) (k : Nat) (v : Bool) : Nat → Bool := fun j => if j = k then v else M j
abbrev BA (n : Nat) (M : Nat → Bool) : hp_C := ZA n (fun j => zI (M j))
theorem BA_upd (n : Nat) (M : Nat → Bool) (k : Nat) (v : Bool) : BA n (updB M k v) = ZA n (upd (fun j => zI (M j)) k (zI v)) := by
  refine congrArg (ZA n) (funext fun j => ?_)
  unfold upd updB
  by_cases h : j = k
  · rw [if_pos h, if_pos h]
  · rw [if_neg h, if_neg h]
theorem updB_s (M : Nat → Bool) (k : Nat) (v : Bool) : updB M k v k = v := if_pos rfl
theorem updB_n (M : Nat → Bool) {k j : Nat} (v : Bool) (h : j ≠ k) : updB M k v j = M j := if_neg h
/-- a run of shape t before run J of row Y meets e -/
def mtQ (f e : Nat → Int64) (o : Nat → Nat) (Y J t : Nat) : Prop := ∃ y j, (y < Y ∨ (y = Y ∧ j < J)) ∧ y < 64 ∧ j < nr f y ∧ o (rs f y + j) = t ∧ ¬ (xrn (f y) j &&& e y) = 0
theorem mtQ_row {f e : Nat → Int64} {o : Nat → Nat} {Y t : Nat} (hY : Y < 64) : mtQ f e o Y (nr f Y) t ↔ mtQ f e o (Y + 1) 0 t := by
  constructor
  · rintro ⟨y, j, q1, q2⟩
    exact ⟨y, j, Or.inl (by omega), q2⟩
  · rintro ⟨y, j, q1, q2, q3, q4⟩
    refine ⟨y, j, ?_, q2, q3, q4⟩
    rcases Nat.lt_or_ge y Y with c | c
    · exact Or.inl c
    · have e1 : y = Y := by omega
      subst e1
      exact Or.inr ⟨rfl, q3⟩
theorem mtQ_step {f e : Nat → Int64} {o : Nat → Nat} {Y J t : Nat} (hY : Y < 64) (hJ : J < nr f Y) : mtQ f e o Y (J + 1) t ↔ mtQ f e o Y J t ∨ (o (rs f Y + J) = t ∧ ¬ (xrn (f Y) J &&& e Y) = 0) := by
  constructor
  · rintro ⟨y, j, q1, q2, q3, q4⟩
    by_cases c : y < Y ∨ (y = Y ∧ j < J)
    · exact Or.inl ⟨y, j, c, q2, q3, q4⟩
    · have e1 : y = Y := by omega
      have e2 : j = J := by omega
      subst e1
      subst e2
      exact Or.inr q4
  · rintro (⟨y, j, q1, q2⟩ | q)
    · exact ⟨y, j, by omega, q2⟩
    · exact ⟨Y, J, Or.inr ⟨rfl, by omega⟩, hY, hJ, q⟩
set_option maxRecDepth 20000 in
theorem c_pa_markMeeting (l : Launch) (h : hp_H) (b : Nat) (f e : Nat → Int64) (g o : Nat → Nat) (M0 : Nat → Bool) (hb : isR b) (he : h[b]? = some (LA 64 e)) (hS : fS f h g o) (hm : h[70]? = some (BA 2048 M0)) :
    hp_M l Y_pa_markMeeting [.ref 65, .ref b] h false 0 0 (fun q h' => q = .inl none ∧ ∃ M, h' = h.set 70 (BA 2048 M) ∧ ∀ t, t < cn (hdb g) (rs f 64) → (M t = true ↔ mtQ f e o 64 0 t)) := by
  refine hp_start (T := T_pa_markMeeting) (by decide) rfl (fun σ => Nat.le_of_ble_eq_true rfl) (fun G C => ?_)
  obtain ⟨s, r, a1, a2, a3, a4, a5, a6, a7, a8, a9, a10⟩ := hS
  have hn := rs_le f (y := 64) (Nat.le_refl _)
  have hc := cn_le (hdb g) (rs f 64)
  have gp : ∀ M, (h.set 70 (BA 2048 M))[65]? = some (PA (rs f 64) (cn (hdb g) (rs f 64))) := fun M => by rw [hq_ne (by decide)]; exact a1
  have gs : ∀ M, (h.set 70 (BA 2048 M))[66]? = some (LA 2048 s) := fun M => by rw [hq_ne (by decide)]; exact a2
  have go : ∀ M, (h.set 70 (BA 2048 M))[69]? = some (NA 2048 o) := fun M => by rw [hq_ne (by decide)]; exact a4
  have gr : ∀ M, (h.set 70 (BA 2048 M))[71]? = some (NA 65 r) := fun M => by rw [hq_ne (by decide)]; exact a5
  have ge : ∀ M, (h.set 70 (BA 2048 M))[b]? = some (LA 64 e) := fun M => by rw [hq_ne (fun q => isR_ne hb (b := 70) (by omega) q.symm)]; exact he
  have gm : ∀ M, (h.set 70 (BA 2048 M))[70]? = some (BA 2048 M) := fun M => hq_get hm
  have olt : ∀ q, q < rs f 64 → o q < 2048 := fun q hq => by
    rw [a10 q hq]
    have h1 := (a8 q hq).1
    have h2 := cn_le (hdb g) (g q)
    omega
  have L2 : ∀ (m y : Nat) (M : Nat → Bool), y + m = 64 → (∀ t, t < cn (hdb g) (rs f 64) → (M t = true ↔ mtQ f e o y 0 t)) →
      hp_W G 25 [(0, .ref 65), (1, .ref b), (2, .int (nI y))] [] (h.set 70 (BA 2048 M)) false 0 0 := by
    intro m
    induction m with
    | zero =>
      intro y M hy hM
      have e1 : y = 64 := by omega
      subst e1
      refine hp_run_sound hp_co V_pa_markMeeting C (fun _ _ _ _ _ _ _ hq => hq) [25] 8 _ _ _ _ _ _ _ ?_
      refine And.intro (fun c => ?_) (fun c => absurd (nI_le (Nat.le_refl 64) (by decide)) c)
      exact And.intro rfl (And.intro rfl (And.intro rfl ⟨M, rfl, hM⟩))
    | succ m ih =>
      intro y M hy hM
      have b1 := rs_s f y
      have b2 := rs_mono f (a := y + 1) (b := 64) (by omega)
      have inner : ∀ (m' j : Nat) (M : Nat → Bool), j + m' = nr f y → (∀ t, t < cn (hdb g) (rs f 64) → (M t = true ↔ mtQ f e o y j t)) →
          hp_W G 38 [(0, .ref 65), (1, .ref b), (2, .int (nI y)), (3, .int (nI (rs f y + j)))] [] (h.set 70 (BA 2048 M)) false 0 0 := by
        intro m'
        induction m' with
        | zero =>
          intro j M hj hM
          have e1 : j = nr f y := by omega
          subst e1
          refine hp_run_sound hp_co V_pa_markMeeting C (fun _ _ _ _ _ _ _ hq => hq) [25] 20 _ _ _ _ _ _ _ ?_
          refine Exists.intro _ (And.intro (gp M) ?_)
          refine Exists.intro .int (Exists.intro 65 (Exists.intro _ (And.intro (Or.inl rfl) (And.intro (gr M) (And.intro (by rw [show nI y + hp_c 1 = nI (y + 1) from nI_1 y]; exact in_nI (by omega) (by decide)) ?_)))))
          rw [show nI y + hp_c 1 = nI (y + 1) from nI_1 y, nI_clamp (by omega), a7 (y + 1) (by omega)]
          refine And.intro (fun c => ?_) (fun c => absurd (nI_le (by omega) (by omega)) c)
          have hW := ih (y + 1) M (by omega) (fun t ht => (hM t ht).trans (mtQ_row (by omega)))
          rw [← nI_1 y] at hW
          refine hp_W_pick [0, 1, 2] ?_
          exact hW
        | succ m' im =>
          intro j M hj hM
          refine hp_run_sound hp_co V_pa_markMeeting C (fun _ _ _ _ _ _ _ hq => hq) [38] 40 _ _ _ _ _ _ _ ?_
          refine Exists.intro _ (And.intro (gp M) ?_)
          refine Exists.intro .int (Exists.intro 65 (Exists.intro _ (And.intro (Or.inl rfl) (And.intro (gr M) (And.intro (by rw [show nI y + hp_c 1 = nI (y + 1) from nI_1 y]; exact in_nI (by omega) (by decide)) ?_)))))
          rw [show nI y + hp_c 1 = nI (y + 1) from nI_1 y, nI_clamp (show y + 1 < 2 ^ 31 by omega), a7 (y + 1) (by omega)]
          refine And.intro (fun c => absurd c (nI_ge (by omega) (by omega))) (fun c => ?_)
          refine Exists.intro _ (And.intro (gp M) ?_)
          refine Exists.intro 2048 (Exists.intro s (And.intro (gs M) (And.intro (in_nI (by omega) (by decide)) ?_)))
          refine Exists.intro 64 (Exists.intro e (And.intro (ge M) (And.intro (in64 (by omega)) ?_)))
          rw [nI_clamp (show rs f y + j < 2 ^ 31 by omega), cl64 (show y < 64 by omega), a6 y j (by omega) (by omega)]
          refine And.intro (fun c => ?_) (fun c => ?_)
          · have hz := (lg_cmp_eq _ _).mp c
            have hW := im (j + 1) M (by omega) (fun t ht => (hM t ht).trans ((mtQ_step (by omega) (by omega)).trans ⟨fun q => by
              rcases q with q | q
              · exact q
              · exact absurd hz q.2, Or.inl⟩).symm)
            rw [show rs f y + (j + 1) = (rs f y + j) + 1 from rfl, ← nI_1 (rs f y + j)] at hW
            exact hW
          · have hz : ¬ (xrn (f y) j &&& e y) = 0 := fun q => c ((lg_cmp_eq _ _).mpr q)
            refine Exists.intro _ (And.intro (gp M) ?_)
            refine Exists.intro _ (And.intro (gp M) ?_)
            refine Exists.intro .int (Exists.intro 2048 (Exists.intro _ (And.intro (Or.inl rfl) (And.intro (go M) (And.intro (in_nI (by omega) (by decide)) ?_)))))
            rw [nI_clamp (show rs f y + j < 2 ^ 31 by omega)]
            have ol := olt (rs f y + j) (by omega)
            refine Exists.intro 2048 (Exists.intro _ (And.intro (gm M) (And.intro (in_nI ol (by decide)) (And.intro rfl ?_))))
            rw [nI_clamp (show o (rs f y + j) < 2 ^ 31 by omega), hq_set]
            have hW := im (j + 1) (updB M (o (rs f y + j)) true) (by omega) (fun t ht => by
              rw [mtQ_step (by omega) (by omega)]
              by_cases q : t = o (rs f y + j)
              · rw [q, updB_s]
                exact ⟨fun _ => Or.inr ⟨rfl, hz⟩, fun _ => rfl⟩
              · rw [updB_n _ _ q, hM t ht]
                exact ⟨Or.inl, fun q2 => by
                  rcases q2 with q2 | q2
                  · exact q2
                  · exact absurd q2.1.symm q⟩)
            rw [show rs f y + (j + 1) = (rs f y + j) + 1 from rfl, ← nI_1 (rs f y + j), BA_upd] at hW
            exact hW
      refine hp_run_sound hp_co V_pa_markMeeting C (fun _ _ _ _ _ _ _ hq => hq) [38] 20 _ _ _ _ _ _ _ ?_
      refine And.intro (fun c => absurd c (nI_ge (b := 64) (by omega) (by decide))) (fun c => ?_)
      refine Exists.intro _ (And.intro (gp M) ?_)
      refine Exists.intro .int (Exists.intro 65 (Exists.intro _ (And.intro (Or.inl rfl) (And.intro (gr M) (And.intro (in_nI (by omega) (by decide)) ?_)))))
      rw [nI_clamp (show y < 2 ^ 31 by omega), a7 y (by omega)]
      exact inner (nr f y) 0 M (by omega) hM
  have L1 : ∀ (m i : Nat) (M : Nat → Bool), i + m = cn (hdb g) (rs f 64) → (∀ t, t < i → M t = false) → hp_W G 2 [(0, .ref 65), (1, .ref b), (2, .int (nI i))] [] (h.set 70 (BA 2048 M)) false 0 0 := by
    intro m
    induction m with
    | zero =>
      intro i M hi hM
      refine hp_run_sound hp_co V_pa_markMeeting C (fun _ _ _ _ _ _ _ hq => hq) [25] 20 _ _ _ _ _ _ _ ?_
      refine Exists.intro _ (And.intro (gp M) ?_)
      refine And.intro (fun c => ?_) (fun c => absurd (nI_le (by omega) (by omega)) c)
      refine L2 64 0 M (by omega) (fun t ht => ?_)
      rw [hM t (by omega)]
      refine ⟨fun q => (by cases q), fun q => ?_⟩
      obtain ⟨y, j, q1, q2⟩ := q
      omega
    | succ m ih =>
      intro i M hi hM
      refine hp_run_sound hp_co V_pa_markMeeting C (fun _ _ _ _ _ _ _ hq => hq) [2] 20 _ _ _ _ _ _ _ ?_
      refine Exists.intro _ (And.intro (gp M) ?_)
      refine And.intro (fun c => absurd c (nI_ge (by omega) (by omega))) (fun c => ?_)
      refine Exists.intro _ (And.intro (gp M) ?_)
      refine Exists.intro 2048 (Exists.intro _ (And.intro (gm M) (And.intro (in_nI (by omega) (by decide)) (And.intro rfl ?_))))
      rw [nI_clamp (by omega), hq_set]
      have hW := ih (i + 1) (updB M i false) (by omega) (fun t ht => by
        by_cases q : t = i
        · rw [q, updB_s]
        · rw [updB_n _ _ q]; exact hM t (by omega))
      rw [← nI_1 i, BA_upd] at hW
      exact hW
  have h0 := L1 (cn (hdb g) (rs f 64)) 0 M0 (by omega) (fun t q => absurd q (Nat.not_lt_zero _))
  rw [hq_self hm] at h0
  refine hp_run_sound hp_co V_pa_markMeeting C (fun _ _ _ _ _ _ _ hq => hq) [2] 8 _ _ _ _ _ _ _ ?_
  exact hp_W_dirty h0
