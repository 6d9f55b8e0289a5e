/-! Polygons: isOpen, paint -/
def opn (k : Nat → Nat) (X Y : Nat → Nat → Nat) (p : Nat) : Bool := decide (k p < 4) || !dif X Y p 0 (X p (k p - 1)) (Y p (k p - 1))
set_option maxRecDepth 20000 in
theorem c_po_isOpen (l : Launch) (h : hp_H) (c p : Nat) (hpp : p < 16) (lay k : Nat → Nat) (X Y : Nat → Nat → Nat) (hk : k p ≤ 16) (hX : ∀ j, X p j ≤ 64) (hY : ∀ j, Y p j ≤ 64) (hS : poS h c lay k X Y) :
    hp_M l Y_po_isOpen [.ref 2, .int (nI p)] h true 0 0 (hq_P (.inl (some (.int (zI (opn k X Y p))))) h) := by
  refine hp_start (T := T_po_isOpen) (by decide) rfl (fun σ => Nat.le_of_ble_eq_true rfl) (fun G C => ?_)
  obtain ⟨a1, a2, a3, a4, a5, a6, a7⟩ := id hS
  refine hp_run_sound hp_co V_po_isOpen C (fun _ _ _ _ _ _ _ hq => hq) [] 40 _ _ _ _ _ _ _ ?_
  refine Exists.intro _ (And.intro a1 ?_)
  refine Exists.intro .int (Exists.intro 16 (Exists.intro _ (And.intro (Or.inl rfl) (And.intro a3 (And.intro (in_nI hpp (by decide)) ?_)))))
  rw [nI_clamp (show p < 2 ^ 31 by omega)]
  have ec : nI (k p) - hp_c 1 + hp_c 1 = nI (k p) := Int32.sub_add_cancel _ _
  refine And.intro (fun q => ?_) (fun q => ?_)
  · rw [ec] at q
    have e : k p < 4 := (nI_ltI (b := 4) (by omega) (by decide)).mp q
    refine And.intro rfl (And.intro rfl (And.intro ?_ rfl))
    unfold opn
    rw [decide_eq_true e]
    rfl
  · rw [ec] at q
    have e : 4 ≤ k p := by
      rcases Nat.lt_or_ge (k p) 4 with q2 | q2
      · exact absurd (nI_lt (b := 4) q2 (by decide)) q
      · exact q2
    have ek : nI (k p) - hp_c 1 = nI (k p - 1) := pk_sub (b := 1) (by omega)
    refine Exists.intro _ (And.intro a1 ?_)
    refine Exists.intro _ (Exists.intro 16 (Exists.intro _ (And.intro a4 (And.intro (in_nI hpp (by decide)) ?_))))
    rw [nI_clamp (show p < 2 ^ 31 by omega)]
    refine Exists.intro .int (Exists.intro 16 (Exists.intro _ (And.intro (Or.inl rfl) (And.intro (a5 p hpp) (And.intro (by rw [ek]; exact in_nI (by omega) (by decide)) ?_)))))
    rw [ek, nI_clamp (show k p - 1 < 2 ^ 31 by omega)]
    refine Exists.intro _ (And.intro a1 ?_)
    refine Exists.intro _ (Exists.intro 16 (Exists.intro _ (And.intro a6 (And.intro (in_nI hpp (by decide)) ?_))))
    rw [nI_clamp (show p < 2 ^ 31 by omega)]
    refine Exists.intro .int (Exists.intro 16 (Exists.intro _ (And.intro (Or.inl rfl) (And.intro (a7 p hpp) (And.intro (in_nI (by omega) (by decide)) ?_)))))
    rw [nI_clamp (show k p - 1 < 2 ^ 31 by omega)]
    refine And.intro ⟨1, _, a1, rfl⟩ ?_
    have b1 := hX 0
    have b2 := hY 0
    have b3 := hX (k p - 1)
    have b4 := hY (k p - 1)
    refine ic_P (c_po_differInOne l h c p 0 (X p (k p - 1)) (Y p (k p - 1)) hpp (by omega) lay k X Y (by omega) (by omega) (by omega) (by omega) hS) (Nat.le_refl _) (Nat.le_refl _) ?_
    have e2 : opn k X Y p = !dif X Y p 0 (X p (k p - 1)) (Y p (k p - 1)) := by
      unfold opn
      rw [decide_eq_false (by omega), Bool.false_or]
    rw [e2]
    cases hd : dif X Y p 0 (X p (k p - 1)) (Y p (k p - 1)) with
    | true =>
      refine And.intro (fun q => ?_) (fun q => absurd q (by decide))
      exact And.intro rfl (And.intro rfl (And.intro rfl rfl))
    | false =>
      refine And.intro (fun q => absurd rfl q) (fun q => ?_)
      exact And.intro rfl (And.intro rfl (And.intro rfl rfl))
/-! paintOne -/
def xr (f : Nat → Bool) : Nat → Bool
  | 0 => false
  | n + 1 => xr f n ^^ f n
theorem xr_congr {f g : Nat → Bool} : ∀ n, (∀ i, i < n → f i = g i) → xr f n = xr g n
  | 0, _ => rfl
  | n + 1, h => by
    show (xr f n ^^ f n) = (xr g n ^^ g n)
    rw [xr_congr n (fun i hi => h i (by omega)), h n (by omega)]
theorem xr_xor (f g : Nat → Bool) : ∀ n, (xr f n ^^ xr g n) = xr (fun i => f i ^^ g i) n
  | 0 => rfl
  | n + 1 => by
    show ((xr f n ^^ f n) ^^ (xr g n ^^ g n)) = (xr (fun i => f i ^^ g i) n ^^ (f n ^^ g n))
    rw [← xr_xor f g n]
    cases xr f n <;> cases f n <;> cases xr g n <;> cases g n <;> rfl
theorem xr_none {f : Nat → Bool} : ∀ {n : Nat}, (∀ i, i < n → f i = false) → xr f n = false
  | 0, _ => rfl
  | n + 1, h => by
    show (xr f n ^^ f n) = false
    rw [xr_none (fun i hi => h i (by omega)), h n (by omega)]
    rfl
/-- the corner before corner i, of k -/
def bef (k i : Nat) : Nat := if i = 0 then k - 1 else i - 1
/-- edge i stands right of place x -/
def std (k : Nat) (X : Nat → Nat) (x i : Nat) : Bool := decide (X i = X (bef k i)) && decide (x < X i)
def flb (k : Nat) (X Y : Nat → Nat) (j v x : Nat) : Bool := xr (fun i => std k X x i && (decide (v = Y (bef k i)) ^^ decide (v = Y i))) j
def pin' (k : Nat) (X Y : Nat → Nat) (x y : Nat) : Bool := xr (fun i => std k X x i && (decide (Y (bef k i) < y) ^^ decide (Y i < y))) k
theorem pin_0 (k : Nat) (X Y : Nat → Nat) (x : Nat) : pin' k X Y x 0 = false := xr_none (fun i _ => by simp)
theorem pin_s (k : Nat) (X Y : Nat → Nat) (x y : Nat) : (pin' k X Y x y ^^ flb k X Y k y x) = pin' k X Y x (y + 1) := by
  unfold pin' flb
  rw [xr_xor]
  refine xr_congr k (fun i _ => ?_)
  have e : ∀ a : Nat, decide (a < y + 1) = (decide (a < y) ^^ decide (y = a)) := fun a => by
    by_cases h1 : a < y
    · rw [decide_eq_true h1, decide_eq_true (by omega), decide_eq_false (by omega)]; rfl
    · by_cases h2 : y = a
      · rw [decide_eq_false h1, decide_eq_true h2, decide_eq_true (by omega)]; rfl
      · rw [decide_eq_false h1, decide_eq_false h2, decide_eq_false (by omega)]; rfl
  rw [e, e]
  cases std k X x i <;> cases decide (Y (bef k i) < y) <;> cases decide (y = Y (bef k i)) <;> cases decide (Y i < y) <;> cases decide (y = Y i) <;> rfl
theorem in65 {i : Nat} (h : i ≤ 64) : vp_in (nI i) 65 := in_nI (by omega) (by decide)
set_option maxRecDepth 20000 in
theorem c_po_paintOne (l : Launch) (h : hp_H) (c p a : Nat) (hpp : p < 16) (lay k : Nat → Nat) (X Y : Nat → Nat → Nat) (hk0 : 0 < k p) (hk : k p ≤ 16) (hX : ∀ j, X p j ≤ 64) (hY : ∀ j, Y p j ≤ 64) (f fl0 : Nat → Int64) (ha : isR a) (hf : h[a]? = some (LA 64 f)) (h39 : h[39]? = some (LA 65 fl0)) (hS : poS h c lay k X Y) :
    hp_M l Y_po_paintOne [.ref 2, .int (nI p), .ref a] h false 0 0 (fun q h' => q = .inl none ∧ hx [39, a] h h' ∧ (∃ fl, h'[39]? = some (LA 65 fl)) ∧ ∃ f', h'[a]? = some (LA 64 f') ∧ ∀ y x, y < 64 → x < 64 → bb (f' y) x = (bb (f y) x || pin' (k p) (X p) (Y p) x (y + 1))) := by
  refine hp_start (T := T_po_paintOne) (by decide) rfl (fun σ => Nat.le_of_ble_eq_true rfl) (fun G C => ?_)
  have hna : a ≠ 39 := isR_ne ha (by omega)
  have L2 : ∀ (m y : Nat) (H : hp_H) (fl f' : Nat → Int64) (row : Int64), y + m = 64 → hx [39, a] h H → H[2]? = some (PO c) → H[39]? = some (LA 65 fl) → H[a]? = some (LA 64 f') → (∀ v x, v ≤ 64 → x < 64 → bb (fl v) x = flb (k p) (X p) (Y p) (k p) v x) → (∀ x, x < 64 → bb row x = pin' (k p) (X p) (Y p) x y) →
      (∀ v x, v < y → x < 64 → bb (f' v) x = (bb (f v) x || pin' (k p) (X p) (Y p) x (v + 1))) → (∀ v, y ≤ v → v < 64 → f' v = f v) →
      hp_W G 113 [(0, .ref 2), (1, .int (nI p)), (2, .ref a), (4, .long row), (6, .int (nI y))] [] H false 0 0 := by
    intro m
    induction m with
    | zero =>
      intro y H fl f' row hy x1 h2 h3 h4 hfl hrow hd hr
      have e : y = 64 := by omega
      subst e
      refine hp_run_sound hp_co V_po_paintOne C (fun _ _ _ _ _ _ _ hq => hq) [113] 8 _ _ _ _ _ _ _ ?_
      refine And.intro (fun q => ?_) (fun q => absurd (nI_le (Nat.le_refl 64) (by decide)) q)
      exact And.intro rfl (And.intro rfl (And.intro rfl ⟨x1, ⟨fl, h3⟩, f', h4, fun y x hy hx2 => hd y x hy hx2⟩))
    | succ m ih =>
      intro y H fl f' row hy x1 h2 h3 h4 hfl hrow hd hr
      refine hp_run_sound hp_co V_po_paintOne C (fun _ _ _ _ _ _ _ hq => hq) [113] 30 _ _ _ _ _ _ _ ?_
      refine And.intro (fun q => absurd q (nI_ge (b := 64) (by omega) (by decide))) (fun q => ?_)
      refine Exists.intro _ (And.intro h2 ?_)
      refine Exists.intro 65 (Exists.intro fl (And.intro h3 (And.intro (in65 (by omega)) ?_)))
      refine Exists.intro 64 (Exists.intro f' (And.intro h4 (And.intro (in64 (by omega)) ?_)))
      refine Exists.intro 64 (Exists.intro f' (And.intro h4 (And.intro (in64 (by omega)) ?_)))
      rw [cl64 (show y < 64 by omega)]
      have hrow2 : ∀ x, x < 64 → bb (row ^^^ fl y) x = pin' (k p) (X p) (Y p) x (y + 1) := fun x hx2 => by rw [bb_xor, hrow x hx2, hfl y x (by omega) hx2, pin_s]
      have hW := ih (y + 1) (H.set a (LA 64 (vp_updL f' y (f' y ||| (row ^^^ fl y))))) fl _ (row ^^^ fl y) (by omega) (hx_set x1 _ (by simp)) (by rw [hq_ne (isR_ne ha (by omega))]; exact h2) (by rw [hq_ne hna]; exact h3) (hq_get h4) hfl hrow2 (fun v x hv hx2 => by
        by_cases e : v = y
        · rw [e, pk_uLs, bb_or, hrow2 x hx2, hr y (by omega) (by omega)]
        · rw [pk_uLn e]; exact hd v x (by omega) hx2) (fun v hv hv2 => by rw [pk_uLn (by omega)]; exact hr v (by omega) hv2)
      rw [← nI_1 y] at hW
      exact hW
  obtain ⟨a1, a2, a3, a4, a5, a6, a7⟩ := id hS
  have L1 : ∀ (m j : Nat) (H : hp_H) (fl : Nat → Int64), j + m = k p → hx [39, a] h H → H[39]? = some (LA 65 fl) → H[a]? = some (LA 64 f) → (∀ v x, v ≤ 64 → x < 64 → bb (fl v) x = flb (k p) (X p) (Y p) j v x) →
      hp_W G 20 [(0, .ref 2), (1, .int (nI p)), (2, .ref a), (3, .int (nI (bef (k p) j))), (4, .int (nI j))] [] H false 0 0 := by
    intro m
    induction m with
    | zero =>
      intro j H fl hj x1 h3 h4 hfl
      have e : j = k p := by omega
      have hna2 : ∀ q, q < 39 → q ∉ [39, a] := fun q hq e => by
        have := isR_ne ha (b := q) (by omega)
        simp at e
        omega
      refine hp_run_sound hp_co V_po_paintOne C (fun _ _ _ _ _ _ _ hq => hq) [113] 20 _ _ _ _ _ _ _ ?_
      refine Exists.intro _ (And.intro (hx_at x1 (hna2 _ (by omega)) a1) ?_)
      refine Exists.intro .int (Exists.intro 16 (Exists.intro _ (And.intro (Or.inl rfl) (And.intro (hx_at x1 (hna2 _ (by omega)) a3) (And.intro (in_nI hpp (by decide)) ?_)))))
      rw [nI_clamp (show p < 2 ^ 31 by omega)]
      refine And.intro (fun q => ?_) (fun q => absurd (nI_le (by omega) (by omega)) q)
      have hW := L2 64 0 H fl f 0 (by omega) x1 (hx_at x1 (hna2 _ (by omega)) a1) h3 h4 (fun v x hv hx2 => by rw [hfl v x hv hx2, e]) (fun x _ => by rw [bb_0, pin_0]) (fun v x q => absurd q (Nat.not_lt_zero _)) (fun _ _ _ => rfl)
      refine hp_W_pick [0, 1, 2, 4, 6] ?_
      exact hW
    | succ m ih =>
      intro j H fl hj x1 h3 h4 hfl
      have hna2 : ∀ q, q < 39 → q ∉ [39, a] := fun q hq e => by
        have := isR_ne ha (b := q) (by omega)
        simp at e
        omega
      have hb16 : bef (k p) j < 16 := by unfold bef; split <;> omega
      have g1 := hx_at x1 (hna2 2 (by omega)) a1
      have g3 := hx_at x1 (hna2 4 (by omega)) a3
      have g4 := hx_at x1 (hna2 5 (by omega)) a4
      have g5 := hx_at x1 (hna2 (6 + p) (by omega)) (a5 p hpp)
      have g6 := hx_at x1 (hna2 22 (by omega)) a6
      have g7 := hx_at x1 (hna2 (23 + p) (by omega)) (a7 p hpp)
      have q1 := hX j
      have q2 := hX (bef (k p) j)
      have q3 := hY j
      have q4 := hY (bef (k p) j)
      have ebn : bef (k p) (j + 1) = j := by unfold bef; rw [if_neg (by omega)]; rfl
      refine hp_run_sound hp_co V_po_paintOne C (fun _ _ _ _ _ _ _ hq => hq) [20] 70 _ _ _ _ _ _ _ ?_
      refine Exists.intro _ (And.intro g1 ?_)
      refine Exists.intro .int (Exists.intro 16 (Exists.intro _ (And.intro (Or.inl rfl) (And.intro g3 (And.intro (in_nI hpp (by decide)) ?_)))))
      rw [nI_clamp (show p < 2 ^ 31 by omega)]
      refine And.intro (fun q => absurd q (nI_ge (by omega) (by omega))) (fun q => ?_)
      refine Exists.intro _ (And.intro g1 ?_)
      refine Exists.intro _ (Exists.intro 16 (Exists.intro _ (And.intro g4 (And.intro (in_nI hpp (by decide)) ?_))))
      rw [nI_clamp (show p < 2 ^ 31 by omega)]
      refine Exists.intro .int (Exists.intro 16 (Exists.intro _ (And.intro (Or.inl rfl) (And.intro g5 (And.intro (in_nI (by omega) (by decide)) ?_)))))
      rw [nI_clamp (show j < 2 ^ 31 by omega)]
      refine Exists.intro _ (And.intro g1 ?_)
      refine Exists.intro _ (Exists.intro 16 (Exists.intro _ (And.intro g4 (And.intro (in_nI hpp (by decide)) ?_))))
      rw [nI_clamp (show p < 2 ^ 31 by omega)]
      refine Exists.intro .int (Exists.intro 16 (Exists.intro _ (And.intro (Or.inl rfl) (And.intro g5 (And.intro (in_nI hb16 (by decide)) ?_)))))
      rw [nI_clamp (show bef (k p) j < 2 ^ 31 by omega)]
      refine And.intro (fun q => ?_) (fun q => ?_)
      · have e : ¬ X p j = X p (bef (k p) j) := fun e => q (by rw [e])
        have hW := ih (j + 1) H fl (by omega) x1 h3 h4 (fun v x hv hx2 => by
          rw [hfl v x hv hx2]
          show _ = (flb (k p) (X p) (Y p) j v x ^^ (std (k p) (X p) x j && _))
          unfold std
          rw [decide_eq_false e]
          simp)
        rw [ebn, ← nI_1 j] at hW
        refine hp_W_pick [0, 1, 2, 3, 4] ?_
        exact hW
      · have e : X p j = X p (bef (k p) j) := (nI_eq (by omega) (by omega)).mp q
        refine Exists.intro _ (And.intro g1 ?_)
        refine Exists.intro _ (And.intro g1 ?_)
        refine Exists.intro _ (Exists.intro 16 (Exists.intro _ (And.intro g6 (And.intro (in_nI hpp (by decide)) ?_))))
        rw [nI_clamp (show p < 2 ^ 31 by omega)]
        refine Exists.intro .int (Exists.intro 16 (Exists.intro _ (And.intro (Or.inl rfl) (And.intro g7 (And.intro (in_nI hb16 (by decide)) ?_)))))
        rw [nI_clamp (show bef (k p) j < 2 ^ 31 by omega)]
        refine Exists.intro 65 (Exists.intro fl (And.intro h3 (And.intro (in65 (by omega)) ?_)))
        refine ic_P (c_ro_leftOf l _ (X p j) (hX j)) (Nat.le_refl _) (Nat.le_refl _) ?_
        refine Exists.intro 65 (Exists.intro fl (And.intro h3 (And.intro (in65 (by omega)) ?_)))
        rw [nI_clamp (show Y p (bef (k p) j) < 2 ^ 31 by omega)]
        have m1 : ∀ q, q < 39 → 39 ≠ q := fun q hq => by omega
        refine Exists.intro _ (And.intro (by rw [hq_ne (m1 _ (by omega))]; exact g1) ?_)
        refine Exists.intro _ (And.intro (by rw [hq_ne (m1 _ (by omega))]; exact g1) ?_)
        refine Exists.intro _ (Exists.intro 16 (Exists.intro _ (And.intro (by rw [hq_ne (m1 _ (by omega))]; exact g6) (And.intro (in_nI hpp (by decide)) ?_))))
        rw [nI_clamp (show p < 2 ^ 31 by omega)]
        refine Exists.intro .int (Exists.intro 16 (Exists.intro _ (And.intro (Or.inl rfl) (And.intro (by rw [hq_ne (m1 _ (by omega))]; exact g7) (And.intro (in_nI (by omega) (by decide)) ?_)))))
        rw [nI_clamp (show j < 2 ^ 31 by omega)]
        refine Exists.intro 65 (Exists.intro _ (And.intro (hq_get h3) (And.intro (in65 (by omega)) ?_)))
        refine ic_P (c_ro_leftOf l _ (X p j) (hX j)) (Nat.le_refl _) (Nat.le_refl _) ?_
        refine Exists.intro 65 (Exists.intro _ (And.intro (hq_get h3) (And.intro (in65 (by omega)) ?_)))
        rw [nI_clamp (show Y p j < 2 ^ 31 by omega), hq_set]
        have hW := ih (j + 1) (H.set 39 (LA 65 (vp_updL (vp_updL fl (Y p (bef (k p) j)) (fl (Y p (bef (k p) j)) ^^^ xlo (X p j))) (Y p j) (vp_updL fl (Y p (bef (k p) j)) (fl (Y p (bef (k p) j)) ^^^ xlo (X p j)) (Y p j) ^^^ xlo (X p j))))) _ (by omega) (hx_set x1 _ (by simp)) (hq_get h3) (by rw [hq_ne (fun e => hna e.symm)]; exact h4) (fun v x hv hx2 => by
          have hlo : bb (xlo (X p j)) x = decide (x < X p j) := bb_ofB _ hx2
          have e1 : bb (vp_updL fl (Y p (bef (k p) j)) (fl (Y p (bef (k p) j)) ^^^ xlo (X p j)) v) x = (bb (fl v) x ^^ (decide (x < X p j) && decide (v = Y p (bef (k p) j)))) := by
            by_cases c1 : v = Y p (bef (k p) j)
            · rw [c1, pk_uLs, bb_xor, hlo, decide_eq_true rfl, Bool.and_true]
            · rw [pk_uLn c1, decide_eq_false c1, Bool.and_false, Bool.xor_false]
          have e2 : bb (vp_updL (vp_updL fl (Y p (bef (k p) j)) (fl (Y p (bef (k p) j)) ^^^ xlo (X p j))) (Y p j) (vp_updL fl (Y p (bef (k p) j)) (fl (Y p (bef (k p) j)) ^^^ xlo (X p j)) (Y p j) ^^^ xlo (X p j)) v) x = (bb (vp_updL fl (Y p (bef (k p) j)) (fl (Y p (bef (k p) j)) ^^^ xlo (X p j)) v) x ^^ (decide (x < X p j) && decide (v = Y p j))) := by
            by_cases c1 : v = Y p j
            · rw [c1, pk_uLs, bb_xor, hlo, decide_eq_true rfl, Bool.and_true]
            · rw [pk_uLn c1, decide_eq_false c1, Bool.and_false, Bool.xor_false]
          rw [e2, e1, hfl v x hv hx2]
          show _ = (flb (k p) (X p) (Y p) j v x ^^ (std (k p) (X p) x j && _))
          unfold std
          rw [decide_eq_true e, Bool.true_and]
          cases flb (k p) (X p) (Y p) j v x <;> cases decide (x < X p j) <;> cases decide (v = Y p (bef (k p) j)) <;> cases decide (v = Y p j) <;> rfl)
        rw [ebn, ← nI_1 j] at hW
        refine hp_W_pick [0, 1, 2, 3, 4] ?_
        exact hW
  refine hp_run_sound hp_co V_po_paintOne C (fun _ _ _ _ _ _ _ hq => hq) [20] 20 _ _ _ _ _ _ _ ?_
  refine Exists.intro _ (And.intro a1 ?_)
  refine ic_P (hp_M_weak (c_ja_fill l h 39 65 0 fl0 (by decide) h39) (fun _ _ q => q)) (Nat.le_refl _) (Nat.le_refl _) ?_
  refine Exists.intro _ (And.intro (by rw [hq_ne (by decide)]; exact a1) ?_)
  refine Exists.intro .int (Exists.intro 16 (Exists.intro _ (And.intro (Or.inl rfl) (And.intro (by rw [hq_ne (by decide)]; exact a3) (And.intro (in_nI hpp (by decide)) ?_)))))
  rw [nI_clamp (show p < 2 ^ 31 by omega)]
  have h0 := L1 (k p) 0 (h.set 39 (LA 65 (fun j => if j < 65 then 0 else fl0 j))) _ (by omega) (hx_set (hx_rf _ _) _ (by simp)) (hq_get h39) (by rw [hq_ne (fun e => hna e.symm)]; exact hf) (fun v x hv hx2 => by rw [if_pos (by omega), bb_0]; rfl)
  have eb : nI (bef (k p) 0) = nI (k p) - hp_c 1 := (pk_sub (b := 1) (by omega)).symm
  rw [eb] at h0
  exact hp_W_dirty h0
/-! paint -/
def ob (f : Nat → Bool) : Nat → Bool
  | 0 => false
  | n + 1 => ob f n || f n
/-- square (x, y) of base layer L -/
def lin (c : Nat) (lay k : Nat → Nat) (X Y : Nat → Nat → Nat) (L x y : Nat) : Bool := ob (fun p => decide (lay p = L) && !opn k X Y p && pin' (k p) (X p) (Y p) x (y + 1)) c
set_option maxRecDepth 20000 in
theorem c_po_paint (l : Launch) (h : hp_H) (c a L : Nat) (hc : c ≤ 16) (hL : L < 2 ^ 31) (lay k : Nat → Nat) (X Y : Nat → Nat → Nat) (hlay : ∀ p, p < 16 → lay p < 2 ^ 31) (hk : ∀ p, p < 16 → k p ≤ 16) (hX : ∀ p j, p < 16 → X p j ≤ 64) (hY : ∀ p j, p < 16 → Y p j ≤ 64) (f fl0 : Nat → Int64) (ha : isR a) (hf : h[a]? = some (LA 64 f)) (h39 : h[39]? = some (LA 65 fl0)) (hS : poS h c lay k X Y) :
    hp_M l Y_po_paint [.ref 2, .int (nI L), .ref a] h false 0 0 (fun q h' => q = .inl none ∧ hx [39, a] h h' ∧ (∃ fl, h'[39]? = some (LA 65 fl)) ∧ ∃ f', h'[a]? = some (LA 64 f') ∧ ∀ y x, y < 64 → x < 64 → bb (f' y) x = lin c lay k X Y L x y) := by
  refine hp_start (T := T_po_paint) (by decide) rfl (fun σ => Nat.le_of_ble_eq_true rfl) (fun G C => ?_)
  have hna : a ≠ 39 := isR_ne ha (by omega)
  have hps : ∀ q ∈ [39, a], 39 ≤ q := fun q e => by
    unfold isR at ha
    simp at e
    omega
  have key : ∀ (m i : Nat) (H : hp_H) (f' : Nat → Int64), i + m = c → hx [39, a] h H → (∃ fl, H[39]? = some (LA 65 fl)) → H[a]? = some (LA 64 f') → (∀ y x, y < 64 → x < 64 → bb (f' y) x = lin i lay k X Y L x y) →
      hp_W G 7 [(0, .ref 2), (1, .int (nI L)), (2, .ref a), (3, .int (nI i))] [] H false 0 0 := by
    intro m
    induction m with
    | zero =>
      intro i H f' hi x1 h3 h4 hb
      have e : i = c := by omega
      subst e
      have hS' := poS_hx hS x1 hps
      refine hp_run_sound hp_co V_po_paint C (fun _ _ _ _ _ _ _ hq => hq) [7] 10 _ _ _ _ _ _ _ ?_
      refine Exists.intro _ (And.intro hS'.1 ?_)
      refine And.intro (fun q => ?_) (fun q => absurd (nI_le (Nat.le_refl _) (by omega)) q)
      exact And.intro rfl (And.intro rfl (And.intro rfl ⟨x1, h3, f', h4, hb⟩))
    | succ m ih =>
      intro i H f' hi x1 h3 h4 hb
      have hS' := poS_hx hS x1 hps
      obtain ⟨fl, h39'⟩ := id h3
      have hi16 : i < 16 := by omega
      have hls : ∀ x y, lin (i + 1) lay k X Y L x y = (lin i lay k X Y L x y || (decide (lay i = L) && !opn k X Y i && pin' (k i) (X i) (Y i) x (y + 1))) := fun _ _ => rfl
      refine hp_run_sound hp_co V_po_paint C (fun _ _ _ _ _ _ _ hq => hq) [7] 30 _ _ _ _ _ _ _ ?_
      refine Exists.intro _ (And.intro hS'.1 ?_)
      refine And.intro (fun q => absurd q (nI_ge (by omega) (by omega))) (fun q => ?_)
      refine Exists.intro _ (And.intro hS'.1 ?_)
      refine Exists.intro .int (Exists.intro 16 (Exists.intro _ (And.intro (Or.inl rfl) (And.intro hS'.2.1 (And.intro (in_nI hi16 (by decide)) ?_)))))
      rw [nI_clamp (show i < 2 ^ 31 by omega)]
      refine And.intro (fun q => ?_) (fun q => ?_)
      · have e : ¬ lay i = L := fun e => q (by rw [e])
        have hW := ih (i + 1) H f' (by omega) x1 h3 h4 (fun y x hy hx2 => by rw [hls, hb y x hy hx2, decide_eq_false e]; simp)
        rw [← nI_1 i] at hW
        exact hW
      · have e : lay i = L := (nI_eq (hlay i hi16) hL).mp q
        refine And.intro ⟨1, _, hS'.1, rfl⟩ ?_
        refine ic_P (c_po_isOpen l H c i hi16 lay k X Y (hk i hi16) (fun j => hX i j hi16) (fun j => hY i j hi16) hS') (Nat.le_refl _) (Nat.le_refl _) ?_
        cases ho : opn k X Y i with
        | true =>
          refine And.intro (fun q => ?_) (fun q => absurd q (by decide))
          have hW := ih (i + 1) H f' (by omega) x1 h3 h4 (fun y x hy hx2 => by rw [hls, hb y x hy hx2, ho]; simp)
          rw [← nI_1 i] at hW
          exact hW
        | false =>
          have hk0 : 0 < k i := by
            unfold opn at ho
            rw [Bool.or_eq_false_iff] at ho
            have := of_decide_eq_false ho.1
            omega
          refine And.intro (fun q => absurd rfl q) (fun q => ?_)
          refine And.intro ⟨1, _, hS'.1, rfl⟩ ?_
          refine ic_Q (c_po_paintOne l H c i a hi16 lay k X Y hk0 (hk i hi16) (fun j => hX i j hi16) (fun j => hY i j hi16) f' fl ha h4 h39' hS') (Nat.le_refl _) (Nat.le_refl _) (fun r H2 hq => ?_)
          obtain ⟨rfl, x2, k3, f2, k4, kb⟩ := hq
          have hW := ih (i + 1) H2 f2 (by omega) (hx_tr x1 x2 _ (fun q hq => hq) (fun q hq => hq)) k3 k4 (fun y x hy hx2 => by rw [hls, kb y x hy hx2, hb y x hy hx2, ho, decide_eq_true e]; simp)
          rw [← nI_1 i] at hW
          exact hW
  refine hp_run_sound hp_co V_po_paint C (fun _ _ _ _ _ _ _ hq => hq) [7] 20 _ _ _ _ _ _ _ ?_
  refine ic_P (hp_M_weak (c_ja_fill l h a 64 0 f (by decide) hf) (fun _ _ q => q)) (Nat.le_refl _) (Nat.le_refl _) ?_
  have h0 := key c 0 (h.set a (LA 64 (fun j => if j < 64 then 0 else f j))) _ (by omega) (hx_set (hx_rf _ _) _ (by simp)) ⟨fl0, by rw [hq_ne hna]; exact h39⟩ (hq_get hf) (fun y x hy _ => by rw [if_pos hy, bb_0]; rfl)
  exact hp_W_dirty h0
