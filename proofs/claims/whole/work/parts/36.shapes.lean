/-! Parts: findShapes, findNets -/
def hdb (g : Nat → Nat) (r : Nat) : Bool := decide (g r = r)
/-- the parts as findShapes leaves them: squares, heads, shapes, rows' starts -/
def fS (f : Nat → Int64) (h : hp_H) (g o : Nat → Nat) : Prop := ∃ s r, h[65]? = some (PA (rs f 64) (cn (hdb g) (rs f 64))) ∧ h[66]? = some (LA 2048 s) ∧ h[67]? = some (NA 2048 g) ∧ h[69]? = some (NA 2048 o) ∧ h[71]? = some (NA 65 r) ∧
  (∀ y j, y < 64 → j < nr f y → s (rs f y + j) = xrn (f y) j) ∧ (∀ y, y ≤ 64 → r y = rs f y) ∧ (∀ r, r < rs f 64 → g r ≤ r ∧ g (g r) = g r) ∧ okc (rs f 64) g (jpq f 0 64 0) ∧ ∀ r, r < rs f 64 → o r = cn (hdb g) (g r)
theorem fS_hx {f : Nat → Int64} {h h' : hp_H} {g o : Nat → Nat} {ps : List Nat} (hS : fS f h g o) (hH : hx ps h h') (h1 : 65 ∉ ps) (h2 : 66 ∉ ps) (h3 : 67 ∉ ps) (h4 : 69 ∉ ps) (h5 : 71 ∉ ps) : fS f h' g o := by
  obtain ⟨s, r, a1, a2, a3, a4, a5, a6⟩ := hS
  exact ⟨s, r, hx_at hH h1 a1, hx_at hH h2 a2, hx_at hH h3 a3, hx_at hH h4 a4, hx_at hH h5 a5, a6⟩
set_option maxRecDepth 20000 in
theorem c_pa_findShapes (l : Launch) (h : hp_H) (a rc sc : Nat) (f s0 : Nat → Int64) (g0 o0 r0 : Nat → Nat) (ha : isR a) (hf : h[a]? = some (LA 64 f)) (hp : h[65]? = some (PA rc sc)) (hs : h[66]? = some (LA 2048 s0)) (hg : h[67]? = some (NA 2048 g0)) (ho : h[69]? = some (NA 2048 o0)) (hr : h[71]? = some (NA 65 r0)) :
    hp_M l Y_pa_findShapes [.ref 65, .ref a] h false 0 0 (fun q h' => q = .inl none ∧ hx [65, 66, 67, 69, 71] h h' ∧ ∃ g o, fS f h' g o) := by
  refine hp_start (T := T_pa_findShapes) (by decide) rfl (fun σ => Nat.le_of_ble_eq_true rfl) (fun G C => ?_)
  have hn := rs_le f (y := 64) (Nat.le_refl _)
  refine hp_run_sound hp_co V_pa_findShapes C (fun _ _ _ _ _ _ _ hq => hq) [22] 30 _ _ _ _ _ _ _ ?_
  refine And.intro ⟨2, _, hp, rfl⟩ ?_
  refine ic_Q (c_pa_cutRuns l h a rc sc f s0 r0 ha hf hp hs hr) (Nat.le_refl _) (Nat.le_refl _) (fun q h1 hq => ?_)
  obtain ⟨rfl, x1, p1, ⟨s, s1, hsq⟩, ⟨r, r1, hrs⟩⟩ := hq
  have hna : a ∉ [65, 66, 71] := by
    have h1 := isR_ne ha (b := 65) (by omega)
    have h2 := isR_ne ha (b := 66) (by omega)
    have h3 := isR_ne ha (b := 71) (by omega)
    simp [h1, h2, h3]
  refine Exists.intro _ (And.intro p1 ?_)
  refine And.intro ⟨2, _, p1, rfl⟩ ?_
  refine ic_Q (c_pa_joinRuns l h1 a 67 0 sc f s r g0 (by decide) ha (Or.inl rfl) (hx_at x1 hna hf) p1 s1 r1 (hx_at x1 (by decide) hg) hsq hrs) (Nat.le_refl _) (Nat.le_refl _) (fun q h2 hq => ?_)
  obtain ⟨rfl, g, rfl, hgg, hok⟩ := hq
  refine And.intro (Or.inl rfl) (Exists.intro _ (And.intro (by rw [hq_ne (by decide)]; exact p1) (And.intro (Nat.le_of_ble_eq_true rfl) (And.intro rfl (And.intro rfl ?_)))))
  have g67 : (h1.set 67 (NA 2048 g))[67]? = some (NA 2048 g) := hq_get (hx_at x1 (by decide) hg)
  have p65 : (h1.set 67 (NA 2048 g))[65]? = some (PA (rs f 64) sc) := by rw [hq_ne (by decide)]; exact p1
  have s66 : (h1.set 67 (NA 2048 g))[66]? = some (LA 2048 s) := by rw [hq_ne (by decide)]; exact s1
  have o69 : (h1.set 67 (NA 2048 g))[69]? = some (NA 2048 o0) := by rw [hq_ne (by decide)]; exact hx_at x1 (by decide) ho
  have r71 : (h1.set 67 (NA 2048 g))[71]? = some (NA 65 r) := by rw [hq_ne (by decide)]; exact r1
  have x2 : hx [65, 66, 67, 69, 71] h (h1.set 67 (NA 2048 g)) := hx_set (hx_tr x1 (hx_rf [] h1) _ (by decide) (by decide)) _ (by decide)
  generalize h1.set 67 (NA 2048 g) = h2 at g67 p65 s66 o69 r71 x2 ⊢
  have key : ∀ (m i : Nat) (H : hp_H) (o : Nat → Nat), i + m = rs f 64 → hx [65, 69] h2 H → H[65]? = some (PA (rs f 64) (cn (hdb g) i)) → H[69]? = some (NA 2048 o) → (∀ r, r < i → o r = cn (hdb g) (g r)) →
      hp_W G 22 [(0, .ref 65), (1, .ref a), (2, .int (nI i))] [] H false 0 0 := by
    intro m
    induction m with
    | zero =>
      intro i H o hi x3 p3 o3 hoo
      have e : i = rs f 64 := by omega
      subst e
      refine hp_run_sound hp_co V_pa_findShapes C (fun _ _ _ _ _ _ _ hq => hq) [22] 20 _ _ _ _ _ _ _ ?_
      refine Exists.intro _ (And.intro p3 ?_)
      refine And.intro (fun c => ?_) (fun c => absurd (nI_le (by omega) (by omega)) c)
      refine And.intro rfl (And.intro rfl (And.intro rfl ⟨hx_tr x2 x3 _ (by decide) (by decide), g, o, s, r, p3, hx_at x3 (by decide) s66, hx_at x3 (by decide) g67, o3, hx_at x3 (by decide) r71, hsq, hrs, hgg, hok, hoo⟩))
    | succ m ih =>
      intro i H o hi x3 p3 o3 hoo
      obtain ⟨g1, g2⟩ := hgg i (by omega)
      have gH := hx_at x3 (by decide) g67
      have hc := cn_le (hdb g) i
      refine hp_run_sound hp_co V_pa_findShapes C (fun _ _ _ _ _ _ _ hq => hq) [22] 40 _ _ _ _ _ _ _ ?_
      refine Exists.intro _ (And.intro p3 ?_)
      refine And.intro (fun c => absurd c (nI_ge (by omega) (by omega))) (fun c => ?_)
      refine Exists.intro _ (And.intro p3 ?_)
      refine Exists.intro .int (Exists.intro 2048 (Exists.intro _ (And.intro (Or.inl rfl) (And.intro gH (And.intro (in_nI (by omega) (by decide)) ?_)))))
      rw [nI_clamp (by omega)]
      refine And.intro (fun c => ?_) (fun c => ?_)
      · have e : ¬ g i = i := fun q => c (by rw [q])
        refine Exists.intro _ (And.intro p3 ?_)
        refine Exists.intro _ (And.intro p3 ?_)
        refine Exists.intro _ (And.intro p3 ?_)
        refine Exists.intro .int (Exists.intro 2048 (Exists.intro _ (And.intro (Or.inl rfl) (And.intro gH (And.intro (in_nI (by omega) (by decide)) ?_)))))
        rw [nI_clamp (by omega)]
        refine Exists.intro .int (Exists.intro 2048 (Exists.intro _ (And.intro (Or.inl rfl) (And.intro o3 (And.intro (in_nI (by omega) (by decide)) ?_)))))
        rw [nI_clamp (by omega)]
        refine Exists.intro 2048 (Exists.intro _ (And.intro o3 (And.intro (in_nI (by omega) (by decide)) ?_)))
        rw [nI_clamp (by omega)]
        have hz : cn (hdb g) (i + 1) = cn (hdb g) i := by rw [cn_s]; unfold hdb; rw [decide_eq_false e]; rfl
        have hW := ih (i + 1) (H.set 69 (NA 2048 (updN o i (o (g i))))) _ (by omega) (hx_set x3 _ (by decide)) (by rw [hq_ne (by decide), hz]; exact p3) (hq_get o3) (fun r hr => by
          by_cases q : r = i
          · rw [q, updN_s, hoo (g i) (by omega), g2]
          · rw [updN_n _ _ q]; exact hoo r (by omega))
        rw [← nI_1 i, NA_upd] at hW
        exact hW
      · have e : g i = i := (nI_eq (by omega) (by omega)).mp c
        refine Exists.intro _ (And.intro p3 ?_)
        refine Exists.intro _ (And.intro p3 ?_)
        refine Exists.intro 2048 (Exists.intro _ (And.intro o3 (And.intro (in_nI (by omega) (by decide)) ?_)))
        rw [nI_clamp (by omega)]
        refine Exists.intro _ (And.intro (by rw [hq_ne (by decide)]; exact p3) ?_)
        refine And.intro (Or.inl rfl) (Exists.intro _ (And.intro (by rw [hq_ne (by decide)]; exact p3) (And.intro (Nat.le_of_ble_eq_true rfl) (And.intro rfl (And.intro rfl ?_)))))
        have hz : nI (cn (hdb g) (i + 1)) = nI (cn (hdb g) i) + 1 := by rw [cn_s]; unfold hdb; rw [decide_eq_true e]; exact (nI_1 _).symm
        have hW := ih (i + 1) ((H.set 69 (NA 2048 (updN o i (cn (hdb g) i)))).set 65 (PA (rs f 64) (cn (hdb g) (i + 1)))) (updN o i (cn (hdb g) i)) (by omega) (hx_set (hx_set x3 _ (by decide)) _ (by decide)) (hq_get (by rw [hq_ne (by decide)]; exact p3)) (by rw [hq_ne (by decide)]; exact hq_get o3) (fun r hr => by
          by_cases q : r = i
          · rw [q, updN_s, e]
          · rw [updN_n _ _ q]; exact hoo r (by omega))
        rw [← nI_1 i, NA_upd] at hW
        unfold PA at hW
        rw [hz] at hW
        exact hW
  exact key (rs f 64) 0 (h2.set 65 (PA (rs f 64) 0)) o0 (by omega) (hx_set (hx_rf _ _) _ (by decide)) (hq_get p65) (by rw [hq_ne (by decide)]; exact o69) (fun r q => absurd q (Nat.not_lt_zero _))
set_option maxRecDepth 20000 in
theorem c_pa_findNets (l : Launch) (h : hp_H) (a : Nat) (f : Nat → Int64) (g o g0 : Nat → Nat) (ha : isR a) (hf : h[a]? = some (LA 64 f)) (hS : fS f h g o) (hg : h[68]? = some (NA 2048 g0)) :
    hp_M l Y_pa_findNets [.ref 65, .ref a] h false 0 0 (fun q h' => q = .inl none ∧ ∃ gn, h' = h.set 68 (NA 2048 gn) ∧ (∀ r, r < rs f 64 → gn r ≤ r ∧ gn (gn r) = gn r) ∧ okc (rs f 64) gn (jpq f 1 64 0)) := by
  refine hp_start (T := T_pa_findNets) (by decide) rfl (fun σ => Nat.le_of_ble_eq_true rfl) (fun G C => ?_)
  obtain ⟨s, r, a1, a2, a3, a4, a5, a6, a7, a8⟩ := hS
  refine hp_run_sound hp_co V_pa_findNets C (fun _ _ _ _ _ _ _ hq => hq) [] 30 _ _ _ _ _ _ _ ?_
  refine Exists.intro _ (And.intro a1 ?_)
  refine And.intro ⟨2, _, a1, rfl⟩ ?_
  refine ic_Q (c_pa_joinRuns l h a 68 1 _ f s r g0 (by decide) ha (Or.inr rfl) hf a1 a2 a5 hg a6 a7) (Nat.le_refl _) (Nat.le_refl _) (fun q h2 hq => ?_)
  obtain ⟨rfl, hq⟩ := hq
  exact And.intro rfl (And.intro rfl (And.intro rfl hq))
