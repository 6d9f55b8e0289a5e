/-! Parts: joinRuns -/
/-- pairs of runs that meet, in rows y-1 and y, y before Y or run before J of Y -/
def jpq (f : Nat → Int64) (d Y J u v : Nat) : Prop := ∃ y j p, (y < Y ∨ (y = Y ∧ j < J)) ∧ 1 ≤ y ∧ y < 64 ∧ j < nr f y ∧ v = rs f y + j ∧ p < 64 ∧ bb (xst (f (y - 1) &&& xwi (xrn (f y) j) d)) p = true ∧ u = rs f (y - 1) + rix (f (y - 1)) p
theorem uf_id {n : Nat} {g : Nat → Nat} (h : ∀ r, r < n → g r = r) : uf n g (fun r => r) := fun r hr => ⟨Nat.le_of_eq (h r hr), Nat.le_refl _, h r hr, fun _ => rfl, h r hr⟩
set_option maxRecDepth 20000 in
theorem c_pa_joinRuns (l : Launch) (h : hp_H) (a b d sc : Nat) (f s : Nat → Int64) (r g0 : Nat → Nat) (hd : d ≤ 64) (ha : isR a) (hb : b = 67 ∨ b = 68) (hf : h[a]? = some (LA 64 f)) (hp : h[65]? = some (PA (rs f 64) sc)) (hs : h[66]? = some (LA 2048 s)) (hr : h[71]? = some (NA 65 r)) (hg : h[b]? = some (NA 2048 g0))
    (hsq : ∀ y j, y < 64 → j < nr f y → s (rs f y + j) = xrn (f y) j) (hrs : ∀ y, y ≤ 64 → r y = rs f y) :
    hp_M l Y_pa_joinRuns [.ref 65, .ref a, .ref b, .int (nI d)] h false 0 0 (fun q h' => q = .inl none ∧ ∃ g, h' = h.set b (NA 2048 g) ∧ (∀ r, r < rs f 64 → g r ≤ r ∧ g (g r) = g r) ∧ okc (rs f 64) g (jpq f d 64 0)) := by
  refine hp_start (T := T_pa_joinRuns) (by decide) rfl (fun σ => Nat.le_of_ble_eq_true rfl) (fun G C => ?_)
  have hba : b ≠ a := by have := isR_ne ha (b := b) (by omega); omega
  have hn := rs_le f (y := 64) (Nat.le_refl _)
  have gp : ∀ g, (h.set b (NA 2048 g))[65]? = some (PA (rs f 64) sc) := fun g => by rw [hq_ne (by omega)]; exact hp
  have gs : ∀ g, (h.set b (NA 2048 g))[66]? = some (LA 2048 s) := fun g => by rw [hq_ne (by omega)]; exact hs
  have gr : ∀ g, (h.set b (NA 2048 g))[71]? = some (NA 65 r) := fun g => by rw [hq_ne (by omega)]; exact hr
  have gf : ∀ g, (h.set b (NA 2048 g))[a]? = some (LA 64 f) := fun g => by rw [hq_ne hba]; exact hf
  have gg : ∀ g, (h.set b (NA 2048 g))[b]? = some (NA 2048 g) := fun g => hq_get hg
  have L3 : ∀ (m i : Nat) (g rt : Nat → Nat), i + m = rs f 64 → uf (rs f 64) g rt → okc (rs f 64) rt (jpq f d 64 0) → (∀ r, r < i → g r = rt r) →
      hp_W G 115 [(0, .ref 65), (1, .ref a), (2, .ref b), (3, .int (nI d)), (4, .int (nI i))] [] (h.set b (NA 2048 g)) false 0 0 := by
    intro m
    induction m with
    | zero =>
      intro i g rt hi hu ho hc
      refine hp_run_sound hp_co V_pa_joinRuns C (fun _ _ _ _ _ _ _ hq => hq) [115] 20 _ _ _ _ _ _ _ ?_
      refine Exists.intro _ (And.intro (gp g) ?_)
      refine And.intro (fun c => ?_) (fun c => absurd (nI_le (by omega) (by omega)) c)
      refine And.intro rfl (And.intro rfl (And.intro rfl ⟨g, rfl, fun r hr => ?_, ?_⟩))
      · rw [hc r (by omega)]
        exact ⟨(hu r hr).2.1, (hu r hr).2.2.2.2⟩
      · refine ⟨ho.1, fun x y hx hy => ?_⟩
        rw [hc x (by omega), hc y (by omega)]
        exact ho.2 x y hx hy
    | succ m ih =>
      intro i g rt hi hu ho hc
      obtain ⟨u1, u2, u3, u4, u5⟩ := hu i (by omega)
      refine hp_run_sound hp_co V_pa_joinRuns C (fun _ _ _ _ _ _ _ hq => hq) [115] 20 _ _ _ _ _ _ _ ?_
      refine Exists.intro _ (And.intro (gp g) ?_)
      refine And.intro (fun c => absurd c (nI_ge (by omega) (by omega))) (fun c => ?_)
      refine Exists.intro .int (Exists.intro 2048 (Exists.intro _ (And.intro (Or.inl rfl) (And.intro (gg g) (And.intro (in_nI (by omega) (by decide)) ?_)))))
      rw [nI_clamp (by omega)]
      refine Exists.intro .int (Exists.intro 2048 (Exists.intro _ (And.intro (Or.inl rfl) (And.intro (gg g) (And.intro (in_nI (by omega) (by decide)) ?_)))))
      rw [nI_clamp (by omega)]
      refine Exists.intro 2048 (Exists.intro _ (And.intro (gg g) (And.intro (in_nI (by omega) (by decide)) ?_)))
      rw [nI_clamp (by omega), hq_set]
      have e : g (g i) = rt i := by
        rcases Nat.lt_or_ge (g i) i with q | q
        · rw [hc _ q, u3]
        · have e1 : g i = i := by omega
          rw [e1, e1, u4 e1]
      have hW := ih (i + 1) (updN g i (rt i)) rt (by omega) (uf_short hu (by omega)) ho (fun r hr => by
        by_cases q : r = i
        · rw [q, updN_s]
        · rw [updN_n _ _ q]; exact hc r (by omega))
      rw [← nI_1 i, NA_upd, ← e] at hW
      exact hW
  have L2 : ∀ (m y : Nat) (g rt : Nat → Nat), y + m = 64 → 1 ≤ y → uf (rs f 64) g rt → okc (rs f 64) rt (jpq f d y 0) →
      hp_W G 27 [(0, .ref 65), (1, .ref a), (2, .ref b), (3, .int (nI d)), (4, .int (nI y))] [] (h.set b (NA 2048 g)) false 0 0 := by
    intro m
    induction m with
    | zero =>
      intro y g rt hy hy1 hu ho
      have e : y = 64 := by omega
      subst e
      refine hp_run_sound hp_co V_pa_joinRuns C (fun _ _ _ _ _ _ _ hq => hq) [115] 20 _ _ _ _ _ _ _ ?_
      refine And.intro (fun c => ?_) (fun c => absurd (nI_le (Nat.le_refl 64) (by decide)) c)
      exact L3 (rs f 64) 0 g rt (by omega) hu ho (fun r q => absurd q (Nat.not_lt_zero _))
    | succ m ih =>
      intro y g rt hy hy1 hu ho
      have b1 := rs_s f y
      have b2 := rs_mono f (a := y + 1) (b := 64) (by omega)
      have inner : ∀ (m' j : Nat) (g rt : Nat → Nat), j + m' = nr f y → uf (rs f 64) g rt → okc (rs f 64) rt (jpq f d y j) →
          hp_W G 43 [(0, .ref 65), (1, .ref a), (2, .ref b), (3, .int (nI d)), (4, .int (nI y)), (5, .int (nI (rs f y + j)))] [] (h.set b (NA 2048 g)) false 0 0 := by
        intro m'
        induction m' with
        | zero =>
          intro j g rt hj hu ho
          refine hp_run_sound hp_co V_pa_joinRuns C (fun _ _ _ _ _ _ _ hq => hq) [27] 20 _ _ _ _ _ _ _ ?_
          refine Exists.intro _ (And.intro (gp g) ?_)
          refine Exists.intro .int (Exists.intro 65 (Exists.intro _ (And.intro (Or.inl rfl) (And.intro (gr g) (And.intro (by rw [show nI y + hp_c 1 = nI (y + 1) from nI_1 y]; exact in_nI (by omega) (by decide)) ?_)))))
          rw [show nI y + hp_c 1 = nI (y + 1) from nI_1 y, nI_clamp (by omega), hrs (y + 1) (by omega)]
          refine And.intro (fun c => ?_) (fun c => absurd (nI_le (by omega) (by omega)) c)
          have hW := ih (y + 1) g rt (by omega) (by omega) hu (okc_iff ho (fun u v => ⟨fun q => ?_, fun q => ?_⟩))
          · rw [← nI_1 y] at hW
            refine hp_W_pick [0, 1, 2, 3, 4] ?_
            exact hW
          · obtain ⟨y', j', p, q1, q2⟩ := q
            exact ⟨y', j', p, Or.inl (by omega), q2⟩
          · obtain ⟨y', j', p, q1, q2, q3, q4, q5⟩ := q
            refine ⟨y', j', p, ?_, q2, q3, q4, q5⟩
            rcases Nat.lt_or_ge y' y with c1 | c1
            · exact Or.inl c1
            · have e : y' = y := by omega
              subst e
              exact Or.inr ⟨rfl, by omega⟩
        | succ m' im =>
          intro j g rt hj hu ho
          refine hp_run_sound hp_co V_pa_joinRuns C (fun _ _ _ _ _ _ _ hq => hq) [43] 50 _ _ _ _ _ _ _ ?_
          refine Exists.intro _ (And.intro (gp g) ?_)
          refine Exists.intro .int (Exists.intro 65 (Exists.intro _ (And.intro (Or.inl rfl) (And.intro (gr g) (And.intro (by rw [show nI y + hp_c 1 = nI (y + 1) from nI_1 y]; exact in_nI (by omega) (by decide)) ?_)))))
          rw [show nI y + hp_c 1 = nI (y + 1) from nI_1 y, nI_clamp (show y + 1 < 2 ^ 31 by omega), hrs (y + 1) (by omega)]
          refine And.intro (fun c => absurd c (nI_ge (by omega) (by omega))) (fun c => ?_)
          have ey : nI y - hp_c 1 = nI (y - 1) := pk_sub (b := 1) hy1
          refine Exists.intro 64 (Exists.intro f (And.intro (gf g) (And.intro (by rw [ey]; exact in64 (by omega)) ?_)))
          refine Exists.intro _ (And.intro (gp g) ?_)
          refine Exists.intro 2048 (Exists.intro s (And.intro (gs g) (And.intro (in_nI (by omega) (by decide)) ?_)))
          refine ic_P (c_ro_widened l _ _ d hd) (Nat.le_refl _) (Nat.le_refl _) ?_
          refine Exists.intro 64 (Exists.intro f (And.intro (gf g) (And.intro (by rw [ey]; exact in64 (by omega)) ?_)))
          refine Exists.intro _ (And.intro (gp g) ?_)
          refine Exists.intro .int (Exists.intro 65 (Exists.intro _ (And.intro (Or.inl rfl) (And.intro (gr g) (And.intro (by rw [ey]; exact in_nI (by omega) (by decide)) ?_)))))
          rw [ey, nI_clamp (show y - 1 < 2 ^ 31 by omega), nI_clamp (show rs f y + j < 2 ^ 31 by omega), hrs (y - 1) (by omega), hsq y j (by omega) (by omega)]
          have b3 : rs f y = rs f (y - 1) + nr f (y - 1) := by rw [← rs_s, show y - 1 + 1 = y by omega]
          refine ic_Q (c_pa_joinContact l (h.set b (NA 2048 g)) b (rs f 64) (rs f (y - 1)) (rs f y + j) (f (y - 1) &&& xwi (xrn (f y) j) d) (f (y - 1)) g rt (jpq f d y j) hn (fun i hi q => by rw [bb_and, Bool.and_eq_true] at q; exact q.1) (by show rs f (y - 1) + nr f (y - 1) ≤ _; omega) (by omega) hu ho (gg g)) (Nat.le_refl _) (Nat.le_refl _) (fun q h' hq => ?_)
          obtain ⟨rfl, g', rt', rfl, hu', ho'⟩ := hq
          rw [hq_set]
          have hW := im (j + 1) g' rt' (by omega) hu' (okc_iff ho' (fun u v => ⟨fun q => ?_, fun q => ?_⟩))
          · rw [show rs f y + (j + 1) = (rs f y + j) + 1 from rfl, ← nI_1 (rs f y + j)] at hW
            refine hp_W_pick [0, 1, 2, 3, 4, 5] ?_
            exact hW
          · rcases q with ⟨y', j', p, q1, q2⟩ | ⟨p, p1, p2, p3, p4⟩
            · refine ⟨y', j', p, ?_, q2⟩
              omega
            · exact ⟨y, j, p, Or.inr ⟨rfl, by omega⟩, hy1, by omega, by omega, p4, p1, p2, p3⟩
          · obtain ⟨y', j', p, q1, q2, q3, q4, q5, q6, q7, q8⟩ := q
            by_cases c1 : y' < y ∨ (y' = y ∧ j' < j)
            · exact Or.inl ⟨y', j', p, c1, q2, q3, q4, q5, q6, q7, q8⟩
            · have e1 : y' = y := by omega
              have e2 : j' = j := by omega
              subst e1
              subst e2
              exact Or.inr ⟨p, q6, q7, q8, q5⟩
      refine hp_run_sound hp_co V_pa_joinRuns C (fun _ _ _ _ _ _ _ hq => hq) [43] 20 _ _ _ _ _ _ _ ?_
      refine And.intro (fun c => absurd c (nI_ge (b := 64) (by omega) (by decide))) (fun c => ?_)
      refine Exists.intro _ (And.intro (gp g) ?_)
      refine Exists.intro .int (Exists.intro 65 (Exists.intro _ (And.intro (Or.inl rfl) (And.intro (gr g) (And.intro (in_nI (by omega) (by decide)) ?_)))))
      rw [nI_clamp (show y < 2 ^ 31 by omega), hrs y (by omega)]
      exact inner (nr f y) 0 g rt (by omega) hu ho
  have L1 : ∀ (m i : Nat) (g : Nat → Nat), i + m = rs f 64 → (∀ r, r < i → g r = r) →
      hp_W G 3 [(0, .ref 65), (1, .ref a), (2, .ref b), (3, .int (nI d)), (4, .int (nI i))] [] (h.set b (NA 2048 g)) false 0 0 := by
    intro m
    induction m with
    | zero =>
      intro i g hi hc
      refine hp_run_sound hp_co V_pa_joinRuns C (fun _ _ _ _ _ _ _ hq => hq) [27] 20 _ _ _ _ _ _ _ ?_
      refine Exists.intro _ (And.intro (gp g) ?_)
      refine And.intro (fun c => ?_) (fun c => absurd (nI_le (by omega) (by omega)) c)
      refine L2 63 1 g (fun r => r) (by omega) (by omega) (uf_id (fun r hr => hc r (by omega))) (okc_iff (okc_0 _) (fun u v => ⟨fun q => q.elim, fun q => ?_⟩))
      obtain ⟨y', j', p, q1, q2, q3, q4, q5⟩ := q
      omega
    | succ m ih =>
      intro i g hi hc
      refine hp_run_sound hp_co V_pa_joinRuns C (fun _ _ _ _ _ _ _ hq => hq) [3] 20 _ _ _ _ _ _ _ ?_
      refine Exists.intro _ (And.intro (gp g) ?_)
      refine And.intro (fun c => absurd c (nI_ge (by omega) (by omega))) (fun c => ?_)
      refine Exists.intro 2048 (Exists.intro _ (And.intro (gg g) (And.intro (in_nI (by omega) (by decide)) ?_)))
      rw [nI_clamp (by omega), hq_set]
      have hW := ih (i + 1) (updN g i i) (by omega) (fun r hr => by
        by_cases q : r = i
        · rw [q, updN_s]
        · rw [updN_n _ _ q]; exact hc r (by omega))
      rw [← nI_1 i, NA_upd] at hW
      exact hW
  have h0 := L1 (rs f 64) 0 g0 (by omega) (fun r q => absurd q (Nat.not_lt_zero _))
  rw [hq_self hg] at h0
  refine hp_run_sound hp_co V_pa_joinRuns C (fun _ _ _ _ _ _ _ hq => hq) [3] 8 _ _ _ _ _ _ _ ?_
  exact hp_W_dirty h0
