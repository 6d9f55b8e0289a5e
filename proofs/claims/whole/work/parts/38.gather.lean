/-! Parts: markedShape, gather, copyShape -/
set_option maxRecDepth 20000 in
theorem c_pa_markedShape (l : Launch) (h : hp_H) (n sc t : Nat) (hn : sc ≤ 2048) (M : Nat → Bool) (ht : t < sc) (hMt : M t = true) (hp : h[65]? = some (PA n sc)) (hm : h[70]? = some (BA 2048 M)) :
    hp_M l Y_pa_markedShape [.ref 65, .int (nI (cn M t))] h true 0 0 (hq_P (.inl (some (.int (nI t)))) h) := by
  refine hp_start (T := T_pa_markedShape) (by decide) rfl (fun σ => Nat.le_of_ble_eq_true rfl) (fun G C => ?_)
  have hct := cn_le M t
  have key : ∀ (m i : Nat), i + m = t → hp_W G 4 [(0, .ref 65), (1, .int (nI (cn M t))), (2, .int (nI (cn M t - cn M i))), (3, .int (nI i))] [] h true 0 0 := by
    intro m
    induction m with
    | zero =>
      intro i hi
      have e : i = t := by omega
      subst e
      refine hp_run_sound hp_co V_pa_markedShape C (fun _ _ _ _ _ _ _ hq => hq) [4] 20 _ _ _ _ _ _ _ ?_
      refine Exists.intro _ (And.intro hp ?_)
      refine And.intro (fun c => absurd c (nI_ge (by omega) (by omega))) (fun c => ?_)
      refine Exists.intro _ (And.intro hp ?_)
      refine Exists.intro 2048 (Exists.intro _ (And.intro hm (And.intro (in_nI (by omega) (by decide)) ?_)))
      rw [nI_clamp (by omega), hMt, Nat.sub_self]
      refine And.intro (fun c => absurd c (by decide)) (fun c => ?_)
      refine And.intro (fun c => absurd (show nI 0 = 0 from rfl) c) (fun c => ?_)
      exact And.intro rfl (And.intro rfl (And.intro rfl rfl))
    | succ m ih =>
      intro i hi
      have hW := ih (i + 1) (by omega)
      have h1 : cn M (i + 1) ≤ cn M t := cn_mono M (by omega)
      rw [cn_s] at h1
      refine hp_run_sound hp_co V_pa_markedShape C (fun _ _ _ _ _ _ _ hq => hq) [4] 20 _ _ _ _ _ _ _ ?_
      refine Exists.intro _ (And.intro hp ?_)
      refine And.intro (fun c => absurd c (nI_ge (by omega) (by omega))) (fun c => ?_)
      refine Exists.intro _ (And.intro hp ?_)
      refine Exists.intro 2048 (Exists.intro _ (And.intro hm (And.intro (in_nI (by omega) (by decide)) ?_)))
      rw [nI_clamp (by omega)]
      rw [cn_s] at hW
      cases hMi : M i with
      | false =>
        rw [hMi] at hW
        refine And.intro (fun c => ?_) (fun c => absurd rfl c)
        rw [← nI_1 i] at hW
        exact hW
      | true =>
        rw [hMi] at hW h1
        have h2 : cn M i + 1 ≤ cn M t := h1
        refine And.intro (fun c => absurd c (by decide)) (fun c => ?_)
        refine And.intro (fun c => ?_) (fun c => absurd c (nI_ne0 (by omega) (by omega)))
        have e : nI (cn M t - (cn M i + true.toNat)) = nI (cn M t - cn M i) + (-1) := by
          rw [show cn M t - cn M i = (cn M t - (cn M i + true.toNat)) + 1 by show _ = cn M t - (cn M i + 1) + 1; omega, pk_m1]
        rw [e, ← nI_1 i] at hW
        exact hW
  have h0 := key t 0 (by omega)
  refine hp_run_sound hp_co V_pa_markedShape C (fun _ _ _ _ _ _ _ hq => hq) [4] 8 _ _ _ _ _ _ _ ?_
  exact h0
set_option maxRecDepth 20000 in
theorem c_pa_markedShape_no (l : Launch) (h : hp_H) (n sc k : Nat) (hn : sc ≤ 2048) (M : Nat → Bool) (hk : cn M sc ≤ k) (hk2 : k < 2 ^ 31) (hp : h[65]? = some (PA n sc)) (hm : h[70]? = some (BA 2048 M)) :
    hp_M l Y_pa_markedShape [.ref 65, .int (nI k)] h true 0 0 (hq_P (.inl (some (.int (-1)))) h) := by
  refine hp_start (T := T_pa_markedShape) (by decide) rfl (fun σ => Nat.le_of_ble_eq_true rfl) (fun G C => ?_)
  have key : ∀ (m i : Nat), i + m = sc → hp_W G 4 [(0, .ref 65), (1, .int (nI k)), (2, .int (nI (k - cn M i))), (3, .int (nI i))] [] h true 0 0 := by
    intro m
    induction m with
    | zero =>
      intro i hi
      have e : i = sc := by omega
      subst e
      refine hp_run_sound hp_co V_pa_markedShape C (fun _ _ _ _ _ _ _ hq => hq) [4] 20 _ _ _ _ _ _ _ ?_
      refine Exists.intro _ (And.intro hp ?_)
      refine And.intro (fun c => ?_) (fun c => absurd (nI_le (Nat.le_refl _) (by omega)) c)
      exact And.intro rfl (And.intro rfl (And.intro rfl rfl))
    | succ m ih =>
      intro i hi
      have hW := ih (i + 1) (by omega)
      have h1 : cn M (i + 1) ≤ cn M sc := cn_mono M (by omega)
      rw [cn_s] at h1
      refine hp_run_sound hp_co V_pa_markedShape C (fun _ _ _ _ _ _ _ hq => hq) [4] 20 _ _ _ _ _ _ _ ?_
      refine Exists.intro _ (And.intro hp ?_)
      refine And.intro (fun c => absurd c (nI_ge (by omega) (by omega))) (fun c => ?_)
      refine Exists.intro _ (And.intro hp ?_)
      refine Exists.intro 2048 (Exists.intro _ (And.intro hm (And.intro (in_nI (by omega) (by decide)) ?_)))
      rw [nI_clamp (by omega)]
      rw [cn_s] at hW
      cases hMi : M i with
      | false =>
        rw [hMi] at hW
        refine And.intro (fun c => ?_) (fun c => absurd rfl c)
        rw [← nI_1 i] at hW
        exact hW
      | true =>
        rw [hMi] at hW h1
        have h2 : cn M i + 1 ≤ cn M sc := h1
        refine And.intro (fun c => absurd c (by decide)) (fun c => ?_)
        refine And.intro (fun c => ?_) (fun c => absurd c (nI_ne0 (by omega) (by omega)))
        have e : nI (k - (cn M i + true.toNat)) = nI (k - cn M i) + (-1) := by
          rw [show k - cn M i = (k - (cn M i + true.toNat)) + 1 by show _ = k - (cn M i + 1) + 1; omega, pk_m1]
        rw [e, ← nI_1 i] at hW
        exact hW
  have h0 := key sc 0 (by omega)
  refine hp_run_sound hp_co V_pa_markedShape C (fun _ _ _ _ _ _ _ hq => hq) [4] 8 _ _ _ _ _ _ _ ?_
  exact h0
/-- the first J of these rows that are wanted, together -/
def orj (c : Nat → Bool) (q : Nat → Int64) : Nat → Int64
  | 0 => 0
  | j + 1 => if c j then orj c q j ||| q j else orj c q j
theorem bb_orj (c : Nat → Bool) (q : Nat → Int64) (x : Nat) : ∀ J, bb (orj c q J) x = true ↔ ∃ j, j < J ∧ c j = true ∧ bb (q j) x = true
  | 0 => by
    show bb 0 x = true ↔ _
    rw [bb_0]
    exact ⟨fun h => (by cases h), fun ⟨j, h, _⟩ => absurd h (Nat.not_lt_zero _)⟩
  | J + 1 => by
    show bb (if c J then _ else _) x = true ↔ _
    cases hc : c J with
    | true =>
      rw [if_pos rfl, bb_or, Bool.or_eq_true, bb_orj c q x J]
      constructor
      · rintro (⟨j, h1, h2⟩ | h)
        · exact ⟨j, by omega, h2⟩
        · exact ⟨J, by omega, hc, h⟩
      · rintro ⟨j, h1, h2, h3⟩
        rcases Nat.lt_or_ge j J with q | q
        · exact Or.inl ⟨j, q, h2, h3⟩
        · have e : j = J := by omega
          subst e
          exact Or.inr h3
    | false =>
      rw [if_neg (by decide), bb_orj c q x J]
      constructor
      · rintro ⟨j, h1, h2⟩
        exact ⟨j, by omega, h2⟩
      · rintro ⟨j, h1, h2, h3⟩
        rcases Nat.lt_or_ge j J with q | q
        · exact ⟨j, q, h2, h3⟩
        · have e : j = J := by omega
          subst e
          rw [hc] at h2
          cases h2
theorem zI_inj {a b : Bool} : zI a = zI b ↔ a = b := by cases a <;> cases b <;> decide
set_option maxRecDepth 20000 in
theorem c_pa_gather (l : Launch) (h : hp_H) (b : Nat) (mk : Bool) (f e0 : Nat → Int64) (g o : Nat → Nat) (M : Nat → Bool) (hb : isR b) (he : h[b]? = some (LA 64 e0)) (hS : fS f h g o) (hm : h[70]? = some (BA 2048 M)) :
    hp_M l Y_pa_gather [.ref 65, .int (zI mk), .ref b] h false 0 0 (fun q h' => q = .inl none ∧ ∃ e, h' = h.set b (LA 64 e) ∧ ∀ y, y < 64 → e y = orj (fun j => M (o (rs f y + j)) == mk) (xrn (f y)) (nr f y)) := by
  refine hp_start (T := T_pa_gather) (by decide) rfl (fun σ => Nat.le_of_ble_eq_true rfl) (fun G C => ?_)
  obtain ⟨s, r, a1, a2, a3, a4, a5, a6, a7, a8, a9, a10⟩ := hS
  have hn := rs_le f (y := 64) (Nat.le_refl _)
  have gp : ∀ e, (h.set b (LA 64 e))[65]? = some (PA (rs f 64) (cn (hdb g) (rs f 64))) := fun M => by rw [hq_ne (isR_ne hb (b := 65) (by omega))]; exact a1
  have gs : ∀ e, (h.set b (LA 64 e))[66]? = some (LA 2048 s) := fun M => by rw [hq_ne (isR_ne hb (b := 66) (by omega))]; exact a2
  have go : ∀ e, (h.set b (LA 64 e))[69]? = some (NA 2048 o) := fun M => by rw [hq_ne (isR_ne hb (b := 69) (by omega))]; exact a4
  have gr : ∀ e, (h.set b (LA 64 e))[71]? = some (NA 65 r) := fun M => by rw [hq_ne (isR_ne hb (b := 71) (by omega))]; exact a5
  have gm : ∀ e, (h.set b (LA 64 e))[70]? = some (BA 2048 M) := fun _ => by rw [hq_ne (isR_ne hb (b := 70) (by omega))]; exact hm
  have ge : ∀ e, (h.set b (LA 64 e))[b]? = some (LA 64 e) := fun M => hq_get he
  have olt : ∀ q, q < rs f 64 → o q < 2048 := fun q hq => by
    rw [a10 q hq]
    have h1 := (a8 q hq).1
    have h2 := cn_le (hdb g) (g q)
    omega
  have key : ∀ (m y : Nat) (e : Nat → Int64), y + m = 64 → (∀ v, v < y → e v = orj (fun j => M (o (rs f v + j)) == mk) (xrn (f v)) (nr f v)) →
      hp_W G 2 [(0, .ref 65), (1, .int (zI mk)), (2, .ref b), (3, .int (nI y))] [] (h.set b (LA 64 e)) false 0 0 := by
    intro m
    induction m with
    | zero =>
      intro y e hy hE
      have e1 : y = 64 := by omega
      subst e1
      refine hp_run_sound hp_co V_pa_gather C (fun _ _ _ _ _ _ _ hq => hq) [2] 8 _ _ _ _ _ _ _ ?_
      refine And.intro (fun c => ?_) (fun c => absurd (nI_le (Nat.le_refl 64) (by decide)) c)
      exact And.intro rfl (And.intro rfl (And.intro rfl ⟨e, rfl, hE⟩))
    | succ m ih =>
      intro y e hy hE
      have b1 := rs_s f y
      have b2 := rs_mono f (a := y + 1) (b := 64) (by omega)
      have inner : ∀ (m' j : Nat) (e : Nat → Int64), j + m' = nr f y → (∀ v, v < y → e v = orj (fun j => M (o (rs f v + j)) == mk) (xrn (f v)) (nr f v)) → e y = orj (fun j => M (o (rs f y + j)) == mk) (xrn (f y)) j →
          hp_W G 20 [(0, .ref 65), (1, .int (zI mk)), (2, .ref b), (3, .int (nI y)), (4, .int (nI (rs f y + j)))] [] (h.set b (LA 64 e)) false 0 0 := by
        intro m'
        induction m' with
        | zero =>
          intro j e hj hE hy2
          have e1 : j = nr f y := by omega
          subst e1
          refine hp_run_sound hp_co V_pa_gather C (fun _ _ _ _ _ _ _ hq => hq) [2] 20 _ _ _ _ _ _ _ ?_
          refine Exists.intro _ (And.intro (gp e) ?_)
          refine Exists.intro .int (Exists.intro 65 (Exists.intro _ (And.intro (Or.inl rfl) (And.intro (gr e) (And.intro (by rw [show nI y + hp_c 1 = nI (y + 1) from nI_1 y]; exact in_nI (by omega) (by decide)) ?_)))))
          rw [show nI y + hp_c 1 = nI (y + 1) from nI_1 y, nI_clamp (by omega), a7 (y + 1) (by omega)]
          refine And.intro (fun c => ?_) (fun c => absurd (nI_le (by omega) (by omega)) c)
          have hW := ih (y + 1) e (by omega) (fun v hv => by
            rcases Nat.lt_or_ge v y with q | q
            · exact hE v q
            · have e2 : v = y := by omega
              subst e2
              exact hy2)
          rw [← nI_1 y] at hW
          refine hp_W_pick [0, 1, 2, 3] ?_
          exact hW
        | succ m' im =>
          intro j e hj hE hy2
          have ol := olt (rs f y + j) (by omega)
          refine hp_run_sound hp_co V_pa_gather C (fun _ _ _ _ _ _ _ hq => hq) [20] 50 _ _ _ _ _ _ _ ?_
          refine Exists.intro _ (And.intro (gp e) ?_)
          refine Exists.intro .int (Exists.intro 65 (Exists.intro _ (And.intro (Or.inl rfl) (And.intro (gr e) (And.intro (by rw [show nI y + hp_c 1 = nI (y + 1) from nI_1 y]; exact in_nI (by omega) (by decide)) ?_)))))
          rw [show nI y + hp_c 1 = nI (y + 1) from nI_1 y, nI_clamp (show y + 1 < 2 ^ 31 by omega), a7 (y + 1) (by omega)]
          refine And.intro (fun c => absurd c (nI_ge (by omega) (by omega))) (fun c => ?_)
          refine Exists.intro _ (And.intro (gp e) ?_)
          refine Exists.intro _ (And.intro (gp e) ?_)
          refine Exists.intro .int (Exists.intro 2048 (Exists.intro _ (And.intro (Or.inl rfl) (And.intro (go e) (And.intro (in_nI (by omega) (by decide)) ?_)))))
          rw [nI_clamp (show rs f y + j < 2 ^ 31 by omega)]
          refine Exists.intro 2048 (Exists.intro _ (And.intro (gm e) (And.intro (in_nI ol (by decide)) ?_)))
          rw [nI_clamp (show o (rs f y + j) < 2 ^ 31 by omega)]
          refine And.intro (fun c => ?_) (fun c => ?_)
          · have hz : (M (o (rs f y + j)) == mk) = false := beq_eq_false_iff_ne.mpr (fun q => c (zI_inj.mpr q))
            have hW := im (j + 1) e (by omega) hE (by
              show e y = if (M (o (rs f y + j)) == mk) then _ else _
              rw [hz, if_neg (by decide)]
              exact hy2)
            rw [show rs f y + (j + 1) = (rs f y + j) + 1 from rfl, ← nI_1 (rs f y + j)] at hW
            exact hW
          · have hz : (M (o (rs f y + j)) == mk) = true := beq_iff_eq.mpr (zI_inj.mp c)
            refine Exists.intro 64 (Exists.intro e (And.intro (ge e) (And.intro (in64 (by omega)) ?_)))
            refine Exists.intro _ (And.intro (gp e) ?_)
            refine Exists.intro 2048 (Exists.intro s (And.intro (gs e) (And.intro (in_nI (by omega) (by decide)) ?_)))
            refine Exists.intro 64 (Exists.intro e (And.intro (ge e) (And.intro (in64 (by omega)) ?_)))
            rw [nI_clamp (show rs f y + j < 2 ^ 31 by omega), cl64 (show y < 64 by omega), a6 y j (by omega) (by omega), hq_set]
            have hW := im (j + 1) (vp_updL e y (e y ||| xrn (f y) j)) (by omega) (fun v hv => by rw [pk_uLn (by omega)]; exact hE v hv) (by
              rw [pk_uLs, hy2]
              show _ = if (M (o (rs f y + j)) == mk) then _ else _
              rw [hz, if_pos rfl])
            rw [show rs f y + (j + 1) = (rs f y + j) + 1 from rfl, ← nI_1 (rs f y + j)] at hW
            exact hW
      have h0 := inner (nr f y) 0 (vp_updL e y 0) (by omega) (fun v hv => by rw [pk_uLn (by omega)]; exact hE v hv) pk_uLs
      refine hp_run_sound hp_co V_pa_gather C (fun _ _ _ _ _ _ _ hq => hq) [20] 20 _ _ _ _ _ _ _ ?_
      refine And.intro (fun c => absurd c (nI_ge (b := 64) (by omega) (by decide))) (fun c => ?_)
      refine Exists.intro 64 (Exists.intro e (And.intro (ge e) (And.intro (in64 (by omega)) ?_)))
      rw [cl64 (show y < 64 by omega), hq_set]
      refine Exists.intro _ (And.intro (gp _) ?_)
      refine Exists.intro .int (Exists.intro 65 (Exists.intro _ (And.intro (Or.inl rfl) (And.intro (gr _) (And.intro (in_nI (by omega) (by decide)) ?_)))))
      rw [nI_clamp (show y < 2 ^ 31 by omega), a7 y (by omega)]
      exact h0
  have h0 := key 64 0 e0 (by omega) (fun v q => absurd q (Nat.not_lt_zero _))
  rw [hq_self he] at h0
  refine hp_run_sound hp_co V_pa_gather C (fun _ _ _ _ _ _ _ hq => hq) [2] 8 _ _ _ _ _ _ _ ?_
  exact hp_W_dirty h0
set_option maxRecDepth 20000 in
theorem c_pa_copyShape (l : Launch) (h : hp_H) (b t : Nat) (ht : t < 2 ^ 31) (f e0 : Nat → Int64) (g o : Nat → Nat) (hb : isR b) (he : h[b]? = some (LA 64 e0)) (hS : fS f h g o) :
    hp_M l Y_pa_copyShape [.ref 65, .int (nI t), .ref b] h false 0 0 (fun q h' => q = .inl none ∧ ∃ e, h' = h.set b (LA 64 e) ∧ ∀ y, y < 64 → e y = orj (fun j => o (rs f y + j) == t) (xrn (f y)) (nr f y)) := by
  refine hp_start (T := T_pa_copyShape) (by decide) rfl (fun σ => Nat.le_of_ble_eq_true rfl) (fun G C => ?_)
  obtain ⟨s, r, a1, a2, a3, a4, a5, a6, a7, a8, a9, a10⟩ := hS
  have hn := rs_le f (y := 64) (Nat.le_refl _)
  have gp : ∀ e, (h.set b (LA 64 e))[65]? = some (PA (rs f 64) (cn (hdb g) (rs f 64))) := fun M => by rw [hq_ne (isR_ne hb (b := 65) (by omega))]; exact a1
  have gs : ∀ e, (h.set b (LA 64 e))[66]? = some (LA 2048 s) := fun M => by rw [hq_ne (isR_ne hb (b := 66) (by omega))]; exact a2
  have go : ∀ e, (h.set b (LA 64 e))[69]? = some (NA 2048 o) := fun M => by rw [hq_ne (isR_ne hb (b := 69) (by omega))]; exact a4
  have gr : ∀ e, (h.set b (LA 64 e))[71]? = some (NA 65 r) := fun M => by rw [hq_ne (isR_ne hb (b := 71) (by omega))]; exact a5
  have ge : ∀ e, (h.set b (LA 64 e))[b]? = some (LA 64 e) := fun M => hq_get he
  have olt : ∀ q, q < rs f 64 → o q < 2048 := fun q hq => by
    rw [a10 q hq]
    have h1 := (a8 q hq).1
    have h2 := cn_le (hdb g) (g q)
    omega
  have key : ∀ (m y : Nat) (e : Nat → Int64), y + m = 64 → (∀ v, v < y → e v = orj (fun j => o (rs f v + j) == t) (xrn (f v)) (nr f v)) →
      hp_W G 2 [(0, .ref 65), (1, .int (nI t)), (2, .ref b), (3, .int (nI y))] [] (h.set b (LA 64 e)) false 0 0 := by
    intro m
    induction m with
    | zero =>
      intro y e hy hE
      have e1 : y = 64 := by omega
      subst e1
      refine hp_run_sound hp_co V_pa_copyShape C (fun _ _ _ _ _ _ _ hq => hq) [2] 8 _ _ _ _ _ _ _ ?_
      refine And.intro (fun c => ?_) (fun c => absurd (nI_le (Nat.le_refl 64) (by decide)) c)
      exact And.intro rfl (And.intro rfl (And.intro rfl ⟨e, rfl, hE⟩))
    | succ m ih =>
      intro y e hy hE
      have b1 := rs_s f y
      have b2 := rs_mono f (a := y + 1) (b := 64) (by omega)
      have inner : ∀ (m' j : Nat) (e : Nat → Int64), j + m' = nr f y → (∀ v, v < y → e v = orj (fun j => o (rs f v + j) == t) (xrn (f v)) (nr f v)) → e y = orj (fun j => o (rs f y + j) == t) (xrn (f y)) j →
          hp_W G 20 [(0, .ref 65), (1, .int (nI t)), (2, .ref b), (3, .int (nI y)), (4, .int (nI (rs f y + j)))] [] (h.set b (LA 64 e)) false 0 0 := by
        intro m'
        induction m' with
        | zero =>
          intro j e hj hE hy2
          have e1 : j = nr f y := by omega
          subst e1
          refine hp_run_sound hp_co V_pa_copyShape C (fun _ _ _ _ _ _ _ hq => hq) [2] 20 _ _ _ _ _ _ _ ?_
          refine Exists.intro _ (And.intro (gp e) ?_)
          refine Exists.intro .int (Exists.intro 65 (Exists.intro _ (And.intro (Or.inl rfl) (And.intro (gr e) (And.intro (by rw [show nI y + hp_c 1 = nI (y + 1) from nI_1 y]; exact in_nI (by omega) (by decide)) ?_)))))
          rw [show nI y + hp_c 1 = nI (y + 1) from nI_1 y, nI_clamp (by omega), a7 (y + 1) (by omega)]
          refine And.intro (fun c => ?_) (fun c => absurd (nI_le (by omega) (by omega)) c)
          have hW := ih (y + 1) e (by omega) (fun v hv => by
            rcases Nat.lt_or_ge v y with q | q
            · exact hE v q
            · have e2 : v = y := by omega
              subst e2
              exact hy2)
          rw [← nI_1 y] at hW
          refine hp_W_pick [0, 1, 2, 3] ?_
          exact hW
        | succ m' im =>
          intro j e hj hE hy2
          have ol := olt (rs f y + j) (by omega)
          refine hp_run_sound hp_co V_pa_copyShape C (fun _ _ _ _ _ _ _ hq => hq) [20] 50 _ _ _ _ _ _ _ ?_
          refine Exists.intro _ (And.intro (gp e) ?_)
          refine Exists.intro .int (Exists.intro 65 (Exists.intro _ (And.intro (Or.inl rfl) (And.intro (gr e) (And.intro (by rw [show nI y + hp_c 1 = nI (y + 1) from nI_1 y]; exact in_nI (by omega) (by decide)) ?_)))))
          rw [show nI y + hp_c 1 = nI (y + 1) from nI_1 y, nI_clamp (show y + 1 < 2 ^ 31 by omega), a7 (y + 1) (by omega)]
          refine And.intro (fun c => absurd c (nI_ge (by omega) (by omega))) (fun c => ?_)
          refine Exists.intro _ (And.intro (gp e) ?_)
          refine Exists.intro .int (Exists.intro 2048 (Exists.intro _ (And.intro (Or.inl rfl) (And.intro (go e) (And.intro (in_nI (by omega) (by decide)) ?_)))))
          rw [nI_clamp (show rs f y + j < 2 ^ 31 by omega)]
          refine And.intro (fun c => ?_) (fun c => ?_)
          · have hz : (o (rs f y + j) == t) = false := beq_eq_false_iff_ne.mpr (fun q => c (by rw [q]))
            have hW := im (j + 1) e (by omega) hE (by
              show e y = if (o (rs f y + j) == t) then _ else _
              rw [hz, if_neg (by decide)]
              exact hy2)
            rw [show rs f y + (j + 1) = (rs f y + j) + 1 from rfl, ← nI_1 (rs f y + j)] at hW
            exact hW
          · have hz : (o (rs f y + j) == t) = true := beq_iff_eq.mpr ((nI_eq (by omega) ht).mp c)
            refine Exists.intro 64 (Exists.intro e (And.intro (ge e) (And.intro (in64 (by omega)) ?_)))
            refine Exists.intro _ (And.intro (gp e) ?_)
            refine Exists.intro 2048 (Exists.intro s (And.intro (gs e) (And.intro (in_nI (by omega) (by decide)) ?_)))
            refine Exists.intro 64 (Exists.intro e (And.intro (ge e) (And.intro (in64 (by omega)) ?_)))
            rw [nI_clamp (show rs f y + j < 2 ^ 31 by omega), cl64 (show y < 64 by omega), a6 y j (by omega) (by omega), hq_set]
            have hW := im (j + 1) (vp_updL e y (e y ||| xrn (f y) j)) (by omega) (fun v hv => by rw [pk_uLn (by omega)]; exact hE v hv) (by
              rw [pk_uLs, hy2]
              show _ = if (o (rs f y + j) == t) then _ else _
              rw [hz, if_pos rfl])
            rw [show rs f y + (j + 1) = (rs f y + j) + 1 from rfl, ← nI_1 (rs f y + j)] at hW
            exact hW
      have h0 := inner (nr f y) 0 (vp_updL e y 0) (by omega) (fun v hv => by rw [pk_uLn (by omega)]; exact hE v hv) pk_uLs
      refine hp_run_sound hp_co V_pa_copyShape C (fun _ _ _ _ _ _ _ hq => hq) [20] 20 _ _ _ _ _ _ _ ?_
      refine And.intro (fun c => absurd c (nI_ge (b := 64) (by omega) (by decide))) (fun c => ?_)
      refine Exists.intro 64 (Exists.intro e (And.intro (ge e) (And.intro (in64 (by omega)) ?_)))
      rw [cl64 (show y < 64 by omega), hq_set]
      refine Exists.intro _ (And.intro (gp _) ?_)
      refine Exists.intro .int (Exists.intro 65 (Exists.intro _ (And.intro (Or.inl rfl) (And.intro (gr _) (And.intro (in_nI (by omega) (by decide)) ?_)))))
      rw [nI_clamp (show y < 2 ^ 31 by omega), a7 y (by omega)]
      exact h0
  have h0 := key 64 0 e0 (by omega) (fun v q => absurd q (Nat.not_lt_zero _))
  rw [hq_self he] at h0
  refine hp_run_sound hp_co V_pa_copyShape C (fun _ _ _ _ _ _ _ hq => hq) [2] 8 _ _ _ _ _ _ _ ?_
  exact hp_W_dirty h0
