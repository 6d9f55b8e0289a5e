/-! LAYOUT: 0 the script, 1 the object, 2 its polygons (3 layerOf, 4 corners, 5 xs and 6..21, 22 ys and 23..38, 39 flips), 40 made and 41..64, 65 parts (66 squares, 67 shapeHead, 68 netHead, 69 shapeOf, 70 marked, 71 rowStart), 72 first, 73 second, 74 spare -/
/-- all but these places is as it was -/
def hx (ps : List Nat) (h h' : hp_H) : Prop := h'.length = h.length ∧ ∀ q, q ∉ ps → h'[q]? = h[q]?
theorem hx_rf (ps : List Nat) (h : hp_H) : hx ps h h := ⟨rfl, fun _ _ => rfl⟩
theorem hx_tr {ps qs : List Nat} {h h' h'' : hp_H} (h1 : hx ps h h') (h2 : hx qs h' h'') (rs : List Nat) (hp : ∀ q ∈ ps, q ∈ rs) (hq : ∀ q ∈ qs, q ∈ rs) : hx rs h h'' :=
  ⟨h2.1.trans h1.1, fun q hn => (h2.2 q (fun e => hn (hq q e))).trans (h1.2 q (fun e => hn (hp q e)))⟩
theorem hx_set {ps : List Nat} {h h' : hp_H} (h1 : hx ps h h') {a : Nat} (c : hp_C) (ha : a ∈ ps) : hx ps h (h'.set a c) :=
  ⟨by rw [List.length_set]; exact h1.1, fun q hn => by rw [hq_ne (fun e : a = q => hn (e ▸ ha))]; exact h1.2 q hn⟩
theorem hx_at {ps : List Nat} {h h' : hp_H} (h1 : hx ps h h') {q : Nat} {c : hp_C} (hn : q ∉ ps) (hq : h[q]? = some c) : h'[q]? = some c := (h1.2 q hn).trans hq
/-- a place that holds rows -/
def isR (a : Nat) : Prop := (41 ≤ a ∧ a ≤ 64) ∨ (72 ≤ a ∧ a ≤ 74)
theorem isR_ne {a b : Nat} (ha : isR a) (hb : b < 41 ∨ (65 ≤ b ∧ b < 72) ∨ 75 ≤ b) : a ≠ b := by unfold isR at ha; omega
abbrev PA (rc sc : Nat) : hp_C := .inr (2, [.ref 66, .ref 67, .ref 68, .ref 69, .ref 70, .ref 71, .int (nI rc), .int (nI sc)])
theorem NA_upd (n : Nat) (g : Nat → Nat) (k v : Nat) : NA n (updN g k v) = IA n (upd (fun j => nI (g j)) k (nI v)) := congrArg (IA n) (upd_nI g k v).symm
/-! runs of a row -/
theorem cn_half {f : Nat → Bool} (h : ∀ i, f i = true → f (i + 1) = true → False) : ∀ m, cn f (2 * m) ≤ m
  | 0 => Nat.le_refl _
  | m + 1 => by
    rw [show 2 * (m + 1) = 2 * m + 1 + 1 by omega, cn_s, cn_s]
    have := cn_half h m
    cases h1 : f (2 * m) <;> cases h2 : f (2 * m + 1) <;> first | exact (h _ h1 h2).elim | (simp; omega)
def nr (f : Nat → Int64) (y : Nat) : Nat := cn (bb (xst (f y))) 64
def rs (f : Nat → Int64) : Nat → Nat := sm (nr f)
theorem nr_le (f : Nat → Int64) (y : Nat) : nr f y ≤ 32 := by
  refine cn_half (f := bb (xst (f y))) (fun i h1 h2 => ?_) 32
  rcases Nat.lt_or_ge (i + 1) 64 with q | q
  · rw [bb_xst _ q] at h2
    rw [bb_xst _ (by omega)] at h1
    rw [Bool.and_eq_true] at h1
    rw [Nat.add_sub_cancel, h1.1] at h2
    simp at h2
  · rw [bb_big q] at h2
    cases h2
theorem rs_s (f : Nat → Int64) (y : Nat) : rs f (y + 1) = rs f y + nr f y := rfl
theorem rs_le (f : Nat → Int64) {y : Nat} (h : y ≤ 64) : rs f y ≤ 2048 := Nat.le_trans (sm_mono _ h) (sm_le (nr_le f) 64)
theorem rs_mono (f : Nat → Int64) {a b : Nat} (h : a ≤ b) : rs f a ≤ rs f b := sm_mono _ h
def xlv (x : Int64) : Nat → Int64
  | 0 => x
  | j + 1 => xlv x j ^^^ xfr (xlv x j)
def xrn (x : Int64) (j : Nat) : Int64 := xfr (xlv x j)
theorem nI_bnd {n : Nat} (h : n ≤ 2048) : n < 2 ^ 31 := by omega
set_option maxRecDepth 20000 in
theorem c_pa_cutRuns (l : Launch) (h : hp_H) (a rc sc : Nat) (f s0 : Nat → Int64) (r0 : Nat → Nat) (ha : isR a) (hf : h[a]? = some (LA 64 f)) (hp : h[65]? = some (PA rc sc)) (hs : h[66]? = some (LA 2048 s0)) (hr : h[71]? = some (NA 65 r0)) :
    hp_M l Y_pa_cutRuns [.ref 65, .ref a] h false 0 0 (fun q h' => q = .inl none ∧ hx [65, 66, 71] h h' ∧ h'[65]? = some (PA (rs f 64) sc) ∧ (∃ s, h'[66]? = some (LA 2048 s) ∧ ∀ y j, y < 64 → j < nr f y → s (rs f y + j) = xrn (f y) j) ∧ ∃ r, h'[71]? = some (NA 65 r) ∧ ∀ y, y ≤ 64 → r y = rs f y) := by
  refine hp_start (T := T_pa_cutRuns) (by decide) rfl (fun σ => Nat.le_of_ble_eq_true rfl) (fun G C => ?_)
  have hna : a ∉ [65, 66, 71] := by
    have h1 := isR_ne ha (b := 65) (by omega)
    have h2 := isR_ne ha (b := 66) (by omega)
    have h3 := isR_ne ha (b := 71) (by omega)
    simp [h1, h2, h3]
  have key : ∀ (m i : Nat) (H : hp_H) (s : Nat → Int64) (r : Nat → Nat), i + m = 64 → hx [65, 66, 71] h H → H[65]? = some (PA (rs f i) sc) → H[66]? = some (LA 2048 s) → H[71]? = some (NA 65 r) → (∀ y j, y < i → j < nr f y → s (rs f y + j) = xrn (f y) j) → (∀ y, y < i → r y = rs f y) →
      hp_W G 7 [(0, .ref 65), (1, .ref a), (2, .int (nI i))] [] H false 0 0 := by
    intro m
    induction m with
    | zero =>
      intro i H s r hi h1 h2 h3 h4 h5 h6
      have e : i = 64 := by omega
      subst e
      refine hp_run_sound hp_co V_pa_cutRuns C (fun _ _ _ _ _ _ _ hq => hq) [7] 20 _ _ _ _ _ _ _ ?_
      refine And.intro (fun c => ?_) (fun c => absurd (nI_le (Nat.le_refl 64) (by decide)) c)
      refine Exists.intro _ (And.intro h2 ?_)
      refine Exists.intro _ (And.intro h2 ?_)
      refine Exists.intro 65 (Exists.intro _ (And.intro h4 (And.intro (in_nI (n := 64) (by decide) (by decide)) ?_)))
      rw [show (hp_c 64).toNatClampNeg = 64 from rfl]
      refine And.intro rfl (And.intro rfl (And.intro rfl ⟨hx_set h1 _ (by decide), by rw [hq_ne (by decide)]; exact h2, ⟨s, by rw [hq_ne (by decide)]; exact h3, h5⟩, ?_⟩))
      refine ⟨updN r 64 (rs f 64), ?_, fun y hy => ?_⟩
      · rw [hq_get h4]
        exact congrArg (fun q => some (IA 65 q)) (upd_nI r 64 (rs f 64))
      · by_cases e : y = 64
        · rw [e, updN_s]
        · rw [updN_n _ _ e]; exact h6 y (by omega)
    | succ m ih =>
      intro i H s r hi h1 h2 h3 h4 h5 h6
      have hfi : H[a]? = some (LA 64 f) := hx_at h1 hna hf
      have hb1 := rs_le f (y := i + 1) (by omega)
      have hb2 := rs_s f i
      have hb3 := nr_le f i
      have inner : ∀ (m' j : Nat) (H : hp_H) (s : Nat → Int64) (r : Nat → Nat), j + m' = nr f i → hx [65, 66, 71] h H → H[65]? = some (PA (rs f i) sc) → H[66]? = some (LA 2048 s) → H[71]? = some (NA 65 r) → (∀ y j, y < i → j < nr f y → s (rs f y + j) = xrn (f y) j) → (∀ j', j' < j → s (rs f i + j') = xrn (f i) j') → (∀ y, y < i + 1 → r y = rs f y) →
          hp_W G 50 [(0, .ref 65), (1, .ref a), (2, .int (nI i)), (3, .long (xlv (f i) j)), (5, .int (nI (rs f (i + 1)))), (6, .int (nI (rs f i + j)))] [] H false 0 0 := by
        intro m'
        induction m' with
        | zero =>
          intro j H s r hj h1 h2 h3 h4 h5 h5' h6
          refine hp_run_sound hp_co V_pa_cutRuns C (fun _ _ _ _ _ _ _ hq => hq) [7, 50] 20 _ _ _ _ _ _ _ ?_
          refine And.intro (fun c => ?_) (fun c => absurd (nI_le (by omega) (by omega)) c)
          refine And.intro (Or.inl rfl) (Exists.intro _ (And.intro h2 (And.intro (Nat.le_of_ble_eq_true rfl) (And.intro rfl (And.intro rfl ?_)))))
          have hW := ih (i + 1) (H.set 65 (PA (rs f (i + 1)) sc)) s r (by omega) (hx_set h1 _ (by decide)) (hq_get h2) (by rw [hq_ne (by decide)]; exact h3) (by rw [hq_ne (by decide)]; exact h4) (fun y j' hy hj' => by
            rcases Nat.lt_or_ge y i with q | q
            · exact h5 y j' q hj'
            · have e : y = i := by omega
              subst e
              exact h5' j' (by omega)) h6
          rw [← nI_1 i] at hW
          refine hp_W_pick [0, 1, 2] ?_
          exact hW
        | succ m' im =>
          intro j H s r hj h1 h2 h3 h4 h5 h5' h6
          refine hp_run_sound hp_co V_pa_cutRuns C (fun _ _ _ _ _ _ _ hq => hq) [7, 50] 30 _ _ _ _ _ _ _ ?_
          refine And.intro (fun c => absurd c (nI_ge (by omega) (by omega))) (fun c => ?_)
          refine Exists.intro _ (And.intro h2 ?_)
          refine ic_P (c_ro_firstRun l _ _) (Nat.le_refl _) (Nat.le_refl _) ?_
          refine Exists.intro 2048 (Exists.intro _ (And.intro h3 (And.intro (in_nI (by omega) (by decide)) ?_)))
          refine Exists.intro _ (And.intro (by rw [hq_ne (by decide)]; exact h2) ?_)
          refine Exists.intro 2048 (Exists.intro _ (And.intro (hq_get h3) (And.intro (in_nI (by omega) (by decide)) ?_)))
          rw [nI_clamp (by omega), pk_uLs]
          have hW := im (j + 1) (H.set 66 (LA 2048 (vp_updL s (rs f i + j) (xfr (xlv (f i) j))))) _ r (by omega) (hx_set h1 _ (by decide)) (by rw [hq_ne (by decide)]; exact h2) (hq_get h3) (by rw [hq_ne (by decide)]; exact h4) (fun y j' hy hj' => by
            have q1 := rs_mono f (a := y + 1) (b := i) (by omega)
            rw [rs_s] at q1
            rw [pk_uLn (by omega)]
            exact h5 y j' hy hj') (fun j' hj' => by
            by_cases e : j' = j
            · rw [e, pk_uLs]; rfl
            · rw [pk_uLn (by omega)]
              exact h5' j' (by omega)) h6
          rw [show rs f i + (j + 1) = (rs f i + j) + 1 from rfl, ← nI_1 (rs f i + j)] at hW
          exact hW
      have h0 := inner (nr f i) 0 (H.set 71 (NA 65 (updN r i (rs f i)))) s (updN r i (rs f i)) (by omega) (hx_set h1 _ (by decide)) (by rw [hq_ne (by decide)]; exact h2) (by rw [hq_ne (by decide)]; exact h3) (hq_get h4) h5 (fun j' q => absurd q (Nat.not_lt_zero _)) (fun y hy => by
        by_cases e : y = i
        · rw [e, updN_s]
        · rw [updN_n _ _ e]; exact h6 y (by omega))
      refine hp_run_sound hp_co V_pa_cutRuns C (fun _ _ _ _ _ _ _ hq => hq) [50] 40 _ _ _ _ _ _ _ ?_
      refine And.intro (fun c => absurd c (nI_ge (b := 64) (by omega) (by decide))) (fun c => ?_)
      refine Exists.intro _ (And.intro h2 ?_)
      refine Exists.intro _ (And.intro h2 ?_)
      refine Exists.intro 65 (Exists.intro _ (And.intro h4 (And.intro (in_nI (by omega) (by decide)) ?_)))
      refine Exists.intro 64 (Exists.intro f (And.intro (by rw [hq_ne (fun e => isR_ne ha (b := 71) (by omega) e.symm)]; exact hfi) (And.intro (in64 (by omega)) ?_)))
      refine Exists.intro _ (And.intro (by rw [hq_ne (by decide)]; exact h2) ?_)
      refine ic_P (c_ro_countRuns l _ _) (Nat.le_refl _) (Nat.le_refl _) ?_
      refine ic_P (M_swap (c_jm_min l _ _ _)) (Nat.le_refl _) (Nat.le_refl _) ?_
      refine Exists.intro _ (And.intro (by rw [hq_ne (by decide)]; exact h2) ?_)
      rw [cl64 (show i < 64 by omega)]
      have e1 : (if nI (rs f i) + nI (cn (bb (xst (f i))) 64) ≤ 2048 then nI (rs f i) + nI (cn (bb (xst (f i))) 64) else 2048) = nI (rs f (i + 1)) := by
        rw [nI_add, if_pos]
        · rfl
        · exact nI_le (b := 2048) hb1 (by decide)
      rw [show rs f i + 0 = rs f i from rfl, ← e1, NA_upd] at h0
      exact h0
  have h0 := key 64 0 (h.set 65 (PA 0 sc)) s0 r0 (by omega) (hx_set (hx_rf _ _) _ (by decide)) (hq_get hp) (by rw [hq_ne (by decide)]; exact hs) (by rw [hq_ne (by decide)]; exact hr) (fun y j q => absurd q (Nat.not_lt_zero _)) (fun y q => absurd q (Nat.not_lt_zero _))
  refine hp_run_sound hp_co V_pa_cutRuns C (fun _ _ _ _ _ _ _ hq => hq) [7] 8 _ _ _ _ _ _ _ ?_
  refine And.intro (Or.inl rfl) (Exists.intro _ (And.intro hp (And.intro (Nat.le_of_ble_eq_true rfl) (And.intro rfl (And.intro rfl ?_)))))
  exact h0
