/-! the reference: load, keep -/
theorem mwS_81 {h : hp_H} (hW : mwS h) {a : Nat} {c : hp_C} (h1 : a = 81 ∨ a = 82 ∨ a = 83) (hc : ∃ f, c = LA 64 f) : mwS (h.set a c) := by
  obtain ⟨f, rfl⟩ := hc
  obtain ⟨⟨f1, a1⟩, ⟨f2, a2⟩, ⟨f3, a3⟩, ⟨f4, a4⟩, ⟨f5, a5⟩, ⟨f6, a6⟩, ⟨f7, a7⟩, ⟨f8, a8⟩⟩ := hW
  rcases h1 with e | e | e
  · subst e
    exact ⟨⟨_, hq_get a1⟩, ⟨_, by rw [hq_ne (by decide)]; exact a2⟩, ⟨_, by rw [hq_ne (by decide)]; exact a3⟩, ⟨_, by rw [hq_ne (by decide)]; exact a4⟩, ⟨_, by rw [hq_ne (by decide)]; exact a5⟩, ⟨_, by rw [hq_ne (by decide)]; exact a6⟩, ⟨_, by rw [hq_ne (by decide)]; exact a7⟩, ⟨_, by rw [hq_ne (by decide)]; exact a8⟩⟩
  · subst e
    exact ⟨⟨_, by rw [hq_ne (by decide)]; exact a1⟩, ⟨_, hq_get a2⟩, ⟨_, by rw [hq_ne (by decide)]; exact a3⟩, ⟨_, by rw [hq_ne (by decide)]; exact a4⟩, ⟨_, by rw [hq_ne (by decide)]; exact a5⟩, ⟨_, by rw [hq_ne (by decide)]; exact a6⟩, ⟨_, by rw [hq_ne (by decide)]; exact a7⟩, ⟨_, by rw [hq_ne (by decide)]; exact a8⟩⟩
  · subst e
    exact ⟨⟨_, by rw [hq_ne (by decide)]; exact a1⟩, ⟨_, by rw [hq_ne (by decide)]; exact a2⟩, ⟨_, hq_get a3⟩, ⟨_, by rw [hq_ne (by decide)]; exact a4⟩, ⟨_, by rw [hq_ne (by decide)]; exact a5⟩, ⟨_, by rw [hq_ne (by decide)]; exact a6⟩, ⟨_, by rw [hq_ne (by decide)]; exact a7⟩, ⟨_, by rw [hq_ne (by decide)]; exact a8⟩⟩
theorem moA_big {h : hp_H} {s : St} (hA : moA h s) {a : Nat} (c : hp_C) (ha : 81 ≤ a) : moA (h.set a c) s := by
  obtain ⟨a1, a2, a3, a4, a5⟩ := hA
  exact ⟨by rw [hq_ne (by omega)]; exact a1, by rw [hq_ne (by omega)]; exact a2, by rw [hq_ne (by omega)]; exact a3, by rw [hq_ne (by omega)]; exact a4, by rw [hq_ne (by omega)]; exact a5⟩
theorem moC_81 {h : hp_H} {s : St} {u : moT} (hC : moC h s u) {a : Nat} (f : Nat → Int64) (h1 : a = 81 ∨ a = 82 ∨ a = 83) : moC (h.set a (LA 64 f)) s u :=
  ⟨by rw [hq_ne (by omega)]; exact hC.1, moA_big hC.2.1 _ (by omega), mwS_81 hC.2.2 h1 ⟨f, rfl⟩⟩
theorem mw_at {h : hp_H} (hW : mwS h) {a : Nat} (h1 : a = 81 ∨ a = 82 ∨ a = 83) : ∃ f, h[a]? = some (LA 64 f) := by
  obtain ⟨⟨f1, a1⟩, ⟨f2, a2⟩, ⟨f3, a3⟩, -⟩ := hW
  rcases h1 with e | e | e
  · subst e; exact ⟨_, a1⟩
  · subst e; exact ⟨_, a2⟩
  · subst e; exact ⟨_, a3⟩
theorem bb_bit {x i : Nat} (hx2 : x < 64) (hi : i < 64) : bb ((1 : Int64) <<< ((nI x).toInt64 &&& 63)) i = decide (i = x) := by
  rw [bb_shl hx2 _ hi]
  by_cases e : x ≤ i
  · rw [decide_eq_true e, Bool.true_and, bb_1 _ (by omega)]
    exact decide_eq_decide.mpr (by omega)
  · rw [decide_eq_false e, decide_eq_false (by omega)]
    rfl
def lw (b : Bool) : Nat := if b then 81 else 82
theorem lw_or (b : Bool) : lw b = 81 ∨ lw b = 82 ∨ lw b = 83 := by cases b <;> simp [lw]
set_option maxRecDepth 20000 in
theorem c_mo_load (l : Launch) (h : hp_H) (s : St) (u : moT) (L : Nat) (b : Bool) (hO : stOK s) (hL : L < s_B s + s_m s) (hC : moC h s u) :
    hp_M l Y_mo_load [.ref 75, .int (nI L), .int (zI b)] h false 0 0 (fun r h' => r = .inl none ∧ ∃ f, h' = h.set (lw b) (LA 64 f) ∧ shw s L f) := by
  obtain ⟨o1, o2, o3, o4, o5, o6, o7, o8, o9, o10⟩ := id hO
  refine hp_start (T := T_mo_load) (by decide) rfl (fun σ => Nat.le_of_ble_eq_true rfl) (fun G C => ?_)
  have key : ∀ (m y : Nat) (g : Nat → Int64), y + m = 64 → (∀ v i, v < y → i < 64 → bb (g v) i = inL s L i v) → hp_W G 2 [(0, .ref 75), (1, .int (nI L)), (2, .int (zI b)), (3, .int (nI y))] [] (h.set (lw b) (LA 64 g)) false 0 0 := by
    intro m
    induction m with
    | zero =>
      intro y g hy hg
      have e : y = 64 := by omega
      subst e
      refine hp_run_sound hp_co V_mo_load C (fun _ _ _ _ _ _ _ hq => hq) [2] 6 _ _ _ _ _ _ _ ?_
      refine And.intro (fun c => ?_) (fun c => absurd (nI_le (Nat.le_refl 64) (by decide)) c)
      exact And.intro rfl (And.intro rfl (And.intro rfl ⟨g, rfl, fun y x hy hx2 => hg y x hy hx2⟩))
    | succ m ih =>
      intro y g hy hg
      have hC1 := moC_81 hC g (lw_or b)
      obtain ⟨f0, hf0⟩ := mw_at hC.2.2 (lw_or b)
      have k0 : (h.set (lw b) (LA 64 g))[lw b]? = some (LA 64 g) := hq_get hf0
      -- the row is put
      have t125 : ∀ (row : Int64) (p : Nat), (∀ i, i < 64 → bb row i = inL s L i y) → hp_W G 125 [(0, .ref 75), (1, .int (nI L)), (2, .int (zI b)), (3, .int (nI y)), (4, .long row), (6, .int (nI p))] [] (h.set (lw b) (LA 64 g)) false 0 0 := by
        intro row p hrow
        have hW := ih (y + 1) (vp_updL g y row) (by omega) (fun v i hv hi => by
          by_cases e : v = y
          · rw [e, pk_uLs]
            exact hrow i hi
          · rw [pk_uLn e]
            exact hg v i (by omega) hi)
        rw [← nI_1 y] at hW
        refine hp_run_sound hp_co V_mo_load C (fun _ _ _ _ _ _ _ hq => hq) [2] 20 _ _ _ _ _ _ _ ?_
        cases b with
        | false =>
          refine And.intro (fun q => ?_) (fun q => absurd rfl q)
          refine Exists.intro _ (And.intro hC1.1 ?_)
          refine Exists.intro 64 (Exists.intro g (And.intro k0 (And.intro (in64 (by omega)) ?_)))
          rw [cl64 (show y < 64 by omega)]
          refine hp_W_pick [0, 1, 2, 3] ?_
          show hp_W G 2 _ _ ((h.set 82 (LA 64 g)).set 82 (LA 64 (vp_updL g y row))) _ _ _
          rw [hq_set]
          exact hW
        | true =>
          refine And.intro (fun q => absurd q (by decide)) (fun q => ?_)
          refine Exists.intro _ (And.intro hC1.1 ?_)
          refine Exists.intro 64 (Exists.intro g (And.intro k0 (And.intro (in64 (by omega)) ?_)))
          rw [cl64 (show y < 64 by omega)]
          refine hp_W_pick [0, 1, 2, 3] ?_
          show hp_W G 2 _ _ ((h.set 81 (LA 64 g)).set 81 (LA 64 (vp_updL g y row))) _ _ _
          rw [hq_set]
          exact hW
      by_cases hLB : L < s_B s
      · -- the polygons of a base layer
        have polys : ∀ (n p : Nat) (row : Int64), p + n = s_c s → (∀ i, i < 64 → bb row i = lin p (s_lay s) (s_k s) (s_X s) (s_Y s) L i y) → hp_W G 41 [(0, .ref 75), (1, .int (nI L)), (2, .int (zI b)), (3, .int (nI y)), (4, .long row), (6, .int (nI p))] [] (h.set (lw b) (LA 64 g)) false 0 0 := by
          intro n
          induction n with
          | zero =>
            intro p row hp hrow
            have e : p = s_c s := by omega
            refine hp_run_sound hp_co V_mo_load C (fun _ _ _ _ _ _ _ hq => hq) [125] 8 _ _ _ _ _ _ _ ?_
            refine Exists.intro _ (And.intro hC1.1 ?_)
            refine And.intro (fun c => ?_) (fun c => absurd (nI_le (show s_c s ≤ p by omega) (by omega)) c)
            refine t125 row p (fun i hi => ?_)
            rw [hrow i hi, e]
            unfold inL
            rw [if_pos hLB]
          | succ n ip =>
            intro p row hp hrow
            have hp16 : p < 16 := by omega
            have lp := o7 p hp16
            -- after polygon p
            have t119 : ∀ (row : Int64) (x : Nat), (∀ i, i < 64 → bb row i = lin (p + 1) (s_lay s) (s_k s) (s_X s) (s_Y s) L i y) → hp_W G 119 [(0, .ref 75), (1, .int (nI L)), (2, .int (zI b)), (3, .int (nI y)), (4, .long row), (6, .int (nI p)), (7, .int (nI x))] [] (h.set (lw b) (LA 64 g)) false 0 0 := by
              intro row x hrow
              have hW := ip (p + 1) row (by omega) hrow
              rw [← nI_1 p] at hW
              refine hp_run_sound hp_co V_mo_load C (fun _ _ _ _ _ _ _ hq => hq) [41] 4 _ _ _ _ _ _ _ ?_
              exact hp_W_pick [0, 1, 2, 3, 4, 6] hW
            have linS : ∀ i, lin (p + 1) (s_lay s) (s_k s) (s_X s) (s_Y s) L i y = (lin p (s_lay s) (s_k s) (s_X s) (s_Y s) L i y || (decide (s_lay s p = L) && !opn (s_k s) (s_X s) (s_Y s) p && pin' (s_k s p) (s_X s p) (s_Y s p) i (y + 1))) := fun i => rfl
            have inner : ∀ (mx x : Nat) (row : Int64), x + mx = 64 → (x = 0 ∨ (s_lay s p = L ∧ opn (s_k s) (s_X s) (s_Y s) p = false)) → (∀ i, i < 64 → bb row i = (lin p (s_lay s) (s_k s) (s_X s) (s_Y s) L i y || (decide (i < x) && pin' (s_k s p) (s_X s p) (s_Y s p) i (y + 1)))) → hp_W G 61 [(0, .ref 75), (1, .int (nI L)), (2, .int (zI b)), (3, .int (nI y)), (4, .long row), (6, .int (nI p)), (7, .int (nI x))] [] (h.set (lw b) (LA 64 g)) false 0 0 := by
              intro mx
              induction mx with
              | zero =>
                intro x row hx2 hor hrow
                have e : x = 64 := by omega
                subst e
                refine hp_run_sound hp_co V_mo_load C (fun _ _ _ _ _ _ _ hq => hq) [119] 6 _ _ _ _ _ _ _ ?_
                refine And.intro (fun c => ?_) (fun c => absurd (nI_le (Nat.le_refl 64) (by decide)) c)
                refine t119 row 64 (fun i hi => ?_)
                have h2 := hor.resolve_left (by omega)
                rw [hrow i hi, linS, decide_eq_true hi, decide_eq_true h2.1, h2.2]
                rfl
              | succ mx ix =>
                intro x row hx2 hor hrow
                refine hp_run_sound hp_co V_mo_load C (fun _ _ _ _ _ _ _ hq => hq) [61, 119] 40 _ _ _ _ _ _ _ ?_
                refine And.intro (fun c => absurd c (nI_ge (b := 64) (by omega) (by decide))) (fun c => ?_)
                refine Exists.intro _ (And.intro hC1.1 ?_)
                refine Exists.intro .int (Exists.intro 16 (Exists.intro _ (And.intro (Or.inl rfl) (And.intro hC1.2.1.1 (And.intro (in_nI hp16 (by decide)) ?_)))))
                rw [nI_clamp (show p < 2 ^ 31 by omega)]
                refine And.intro (fun q => ?_) (fun q => ?_)
                · have q1 : ¬ s_lay s p = L := fun e => q (congrArg nI e)
                  have h0 : x = 0 := hor.resolve_right (fun e => q1 e.1)
                  refine t119 row x (fun i hi => ?_)
                  rw [hrow i hi, linS, h0, decide_eq_false (Nat.not_lt_zero i), decide_eq_false q1]
                  rfl
                · have q1 : s_lay s p = L := (nI_eq (by omega) (by omega)).mp q
                  refine And.intro ⟨3, _, hC1.1, rfl⟩ ?_
                  refine ic_P (c_mo_isClosed l _ s u p hO hp16 hC1) (Nat.le_refl _) (Nat.le_refl _) ?_
                  refine And.intro (fun q => ?_) (fun q => ?_)
                  · have q2 : opn (s_k s) (s_X s) (s_Y s) p = true := by
                      have := (zI_eq _).mp q
                      simpa using this
                    have h0 : x = 0 := hor.resolve_right (fun e => by rw [e.2] at q2; cases q2)
                    refine t119 row x (fun i hi => ?_)
                    rw [hrow i hi, linS, h0, decide_eq_false (Nat.not_lt_zero i), q2, decide_eq_true q1]
                    rfl
                  · have q2 : opn (s_k s) (s_X s) (s_Y s) p = false := by
                      have := zI_t q
                      simpa using this
                    refine And.intro ⟨3, _, hC1.1, rfl⟩ ?_
                    refine ic_P (c_mo_isIn l _ s u p x y hO hp16 (by omega) (by omega) hC1) (Nat.le_refl _) (Nat.le_refl _) ?_
                    have nxt : ∀ row', (∀ i, i < 64 → bb row' i = (bb row i || (decide (i = x) && pin' (s_k s p) (s_X s p) (s_Y s p) x (y + 1)))) → ∀ i, i < 64 → bb row' i = (lin p (s_lay s) (s_k s) (s_X s) (s_Y s) L i y || (decide (i < x + 1) && pin' (s_k s p) (s_X s p) (s_Y s p) i (y + 1))) := by
                      intro row' hr i hi
                      rw [hr i hi, hrow i hi]
                      by_cases e : i = x
                      · rw [e, decide_eq_true rfl, decide_eq_false (Nat.lt_irrefl x), decide_eq_true (Nat.lt_succ_self x), Bool.false_and, Bool.or_false]
                      · rw [decide_eq_false e, Bool.false_and, Bool.or_false, show decide (i < x + 1) = decide (i < x) from decide_eq_decide.mpr (by omega)]
                    refine And.intro (fun q => ?_) (fun q => ?_)
                    · have q3 := (zI_eq _).mp q
                      have hW := ix (x + 1) (row ||| 0) (by omega) (Or.inr ⟨q1, q2⟩) (nxt _ (fun i hi => by rw [bb_or, bb_0, q3, Bool.and_false]))
                      rw [← nI_1 x] at hW
                      exact hW
                    · have q3 := zI_t q
                      have hW := ix (x + 1) (row ||| ((1 : Int64) <<< ((nI x).toInt64 &&& 63))) (by omega) (Or.inr ⟨q1, q2⟩) (nxt _ (fun i hi => by rw [bb_or, bb_bit (by omega) hi, q3, Bool.and_true]))
                      rw [← nI_1 x] at hW
                      exact hW
            refine hp_run_sound hp_co V_mo_load C (fun _ _ _ _ _ _ _ hq => hq) [61, 125] 12 _ _ _ _ _ _ _ ?_
            refine Exists.intro _ (And.intro hC1.1 ?_)
            refine And.intro (fun c => absurd c (nI_ge (by omega) (by omega))) (fun c => ?_)
            refine Exists.intro _ (And.intro hC1.1 ?_)
            refine And.intro (fun c => absurd c (nI_ge hLB (by omega))) (fun c => ?_)
            exact inner 64 0 row (by omega) (Or.inl rfl) (fun i hi => by rw [hrow i hi, decide_eq_false (Nat.not_lt_zero i), Bool.false_and, Bool.or_false])
        refine hp_run_sound hp_co V_mo_load C (fun _ _ _ _ _ _ _ hq => hq) [41] 20 _ _ _ _ _ _ _ ?_
        refine And.intro (fun c => absurd c (nI_ge (b := 64) (by omega) (by decide))) (fun c => ?_)
        refine Exists.intro _ (And.intro hC1.1 ?_)
        refine And.intro (fun c => ?_) (fun c => absurd (nI_lt hLB (by omega)) c)
        exact polys (s_c s) 0 0 (by omega) (fun i hi => by rw [bb_0]; rfl)
      · refine hp_run_sound hp_co V_mo_load C (fun _ _ _ _ _ _ _ hq => hq) [125] 30 _ _ _ _ _ _ _ ?_
        refine And.intro (fun c => absurd c (nI_ge (b := 64) (by omega) (by decide))) (fun c => ?_)
        refine Exists.intro _ (And.intro hC1.1 ?_)
        refine And.intro (fun c => absurd c (nI_nlt (by omega) (by omega))) (fun c => ?_)
        refine Exists.intro _ (And.intro hC1.1 ?_)
        refine Exists.intro _ (And.intro hC1.1 ?_)
        have e1 : hp_c 64 * (nI L - nI (s_B s)) + nI y = nI (64 * (L - s_B s) + y) := by
          rw [pk_sub (by omega), ← nI_add, ← pk_mul]
          rfl
        refine Exists.intro 1536 (Exists.intro _ (And.intro hC1.2.1.2.2.2.2 (And.intro (show vp_in (hp_c 64 * (nI L - nI (s_B s)) + nI y) 1536 from by rw [e1]; exact in_nI (by omega) (by decide)) ?_)))
        have e2 : daF (s_D s) (hp_c 64 * (nI L - nI (s_B s)) + nI y).toNatClampNeg = s_D s (L - s_B s) y := by
          rw [e1, nI_clamp (by omega), daF_at _ (by omega)]
        have fin : ∀ p, hp_W G 125 [(0, .ref 75), (1, .int (nI L)), (2, .int (zI b)), (3, .int (nI y)), (4, .long (daF (s_D s) (hp_c 64 * (nI L - nI (s_B s)) + nI y).toNatClampNeg)), (6, .int (nI p))] [] (h.set (lw b) (LA 64 g)) false 0 0 := fun p => t125 _ p (fun i hi => by
          rw [e2]
          unfold inL
          rw [if_neg hLB])
        refine Exists.intro _ (And.intro hC1.1 ?_)
        refine And.intro (fun c => fin 0) (fun c => ?_)
        refine Exists.intro _ (And.intro hC1.1 ?_)
        refine And.intro (fun c => fin 0) (fun c => absurd (nI_le (show s_B s ≤ L by omega) (by omega)) c)
  obtain ⟨f0, hf0⟩ := mw_at hC.2.2 (lw_or b)
  have h0 := key 64 0 f0 (by omega) (fun v i hv => absurd hv (Nat.not_lt_zero _))
  rw [hq_self hf0] at h0
  refine hp_run_sound hp_co V_mo_load C (fun _ _ _ _ _ _ _ hq => hq) [2] 4 _ _ _ _ _ _ _ ?_
  exact hp_W_dirty h0
