/-! THE REFERENCE. Its places: 75 the object, 76 polygonLayers, 77 counts, 78 cornerX, 79 cornerY, 80 mades, 81 one, 82 two, 83 out, 84 labels, 85 stack, 86 netIds, 87 inside, 88 touches; then 89 the law's out -/
abbrev MO (cd : Int32) (B c m n sc : Nat) (ln fr to sd : Int32) : hp_C := .inr (3, [.int cd, .int (nI B), .ref 76, .ref 77, .ref 78, .ref 79, .int (nI c), .ref 80, .int (nI m), .int (nI n), .ref 81, .ref 82, .ref 83, .ref 84, .ref 85, .int (nI sc), .ref 86, .ref 87, .ref 88, .int ln, .int fr, .int to, .int sd])
def caF (X : Nat → Nat → Nat) (q : Nat) : Nat := X (q / 16) (q % 16)
def daF (D : Nat → Nat → Int64) (q : Nat) : Int64 := D (q / 64) (q % 64)
abbrev CA (X : Nat → Nat → Nat) : hp_C := NA 256 (caF X)
abbrev DA (D : Nat → Nat → Int64) : hp_C := LA 1536 (daF D)
theorem caF_at (X : Nat → Nat → Nat) {p k : Nat} (hk : k < 16) : caF X (16 * p + k) = X p k := by
  unfold caF
  rw [show (16 * p + k) / 16 = p by omega, show (16 * p + k) % 16 = k by omega]
theorem daF_at (D : Nat → Nat → Int64) {p k : Nat} (hk : k < 64) : daF D (64 * p + k) = D p k := by
  unfold daF
  rw [show (64 * p + k) / 64 = p by omega, show (64 * p + k) % 64 = k by omega]
/-- the object: code, base layers, polygons, made, strips, shapes found, the last edge -/
abbrev moT : Type := Int32 × Nat × Int32 × Int32 × Int32 × Int32
def mo75 (s : St) (u : moT) : hp_C := MO u.1 (s_B s) (s_c s) (s_m s) (s_n s) u.2.1 u.2.2.1 u.2.2.2.1 u.2.2.2.2.1 u.2.2.2.2.2
def mwS (h : hp_H) : Prop := (∃ f, h[81]? = some (LA 64 f)) ∧ (∃ f, h[82]? = some (LA 64 f)) ∧ (∃ f, h[83]? = some (LA 64 f)) ∧ (∃ g, h[84]? = some (IA 4096 g)) ∧ (∃ g, h[85]? = some (IA 4096 g)) ∧ (∃ g, h[86]? = some (IA 4096 g)) ∧ (∃ M, h[87]? = some (BA 4096 M)) ∧ ∃ M, h[88]? = some (BA 4096 M)
def moA (h : hp_H) (s : St) : Prop := h[76]? = some (NA 16 (s_lay s)) ∧ h[77]? = some (NA 16 (s_k s)) ∧ h[78]? = some (CA (s_X s)) ∧ h[79]? = some (CA (s_Y s)) ∧ h[80]? = some (DA (s_D s))
def moC (h : hp_H) (s : St) (u : moT) : Prop := h[75]? = some (mo75 s u) ∧ moA h s ∧ mwS h
def moS (h : hp_H) (s : St) (cd : Int32) : Prop := ∃ u : moT, u.1 = cd ∧ moC h s u
def hxM (h h' : hp_H) : Prop := h'.length = h.length ∧ ∀ q, (q < 75 ∨ 89 ≤ q) → h'[q]? = h[q]?
theorem hxM_rf (h : hp_H) : hxM h h := ⟨rfl, fun _ _ => rfl⟩
theorem hxM_tr {h h' h'' : hp_H} (a : hxM h h') (b : hxM h' h'') : hxM h h'' := ⟨b.1.trans a.1, fun q hq => (b.2 q hq).trans (a.2 q hq)⟩
theorem hxM_of {ps : List Nat} {h h' : hp_H} (a : hx ps h h') (hp : ∀ q ∈ ps, 75 ≤ q ∧ q < 89) : hxM h h' := ⟨a.1, fun q hq => a.2 q (fun e => by have := hp q e; omega)⟩
def moM (l : Launch) (Y : hp_Y) (av : List Value) (s : St) (c : Nat) (v : Value) (s' : St) : Prop := ∀ h cd, moS h s cd → hp_M l Y (.ref 75 :: av) h false 0 0 (fun r h' => r = .inl (some v) ∧ hxM h h' ∧ moS h' s' (nI c))
theorem bb_1 : ∀ i, i < 64 → bb 1 i = decide (i = 0) := by decide +kernel
theorem bit_1 {k : Nat} (hk : k < 64) (x : Int64) : ((x.toUInt64 >>> ((nI k).toInt64.toUInt64 &&& Int64.toUInt64 63)).toInt64 &&& 1) = 1 ↔ bb x k = true := by
  constructor
  · intro h
    have h2 : bb ((x.toUInt64 >>> ((nI k).toInt64.toUInt64 &&& Int64.toUInt64 63)).toInt64 &&& 1) 0 = true := by rw [h, bb_1 0 (by decide)]; rfl
    rw [bb_and, bb_shr hk, bb_1 0 (by decide), Nat.add_zero] at h2
    simpa using h2
  · intro h
    refine bb_ext (fun i hi => ?_)
    rw [bb_and, bb_shr hk, bb_1 i hi]
    by_cases e : i = 0
    · rw [e, Nat.add_zero, h]
      rfl
    · rw [decide_eq_false e, Bool.and_false]
set_option maxRecDepth 20000 in
theorem c_mo_bit (l : Launch) (h : hp_H) (x : Int64) (k : Nat) (hk : k < 64) : hp_M l Y_mo_bit [.long x, .int (nI k)] h true 0 0 (hq_P (.inl (some (.int (zI (bb x k))))) h) := by
  refine hp_start (T := T_mo_bit) (by decide) rfl (fun σ => Nat.le_of_ble_eq_true rfl) (fun G C => ?_)
  refine hp_run_sound hp_co V_mo_bit C (fun _ _ _ _ _ _ _ hq => hq) [] 14 _ _ _ _ _ _ _ ?_
  refine And.intro (fun q => ?_) (fun q => ?_)
  · have : bb x k = false := by
      cases e : bb x k with
      | false => rfl
      | true => exact absurd ((lg_cmp_eq _ _).mpr ((bit_1 hk x).mpr e)) q
    rw [this]
    exact And.intro rfl (And.intro rfl (And.intro rfl rfl))
  · rw [(bit_1 hk x).mp ((lg_cmp_eq _ _).mp q)]
    exact And.intro rfl (And.intro rfl (And.intro rfl rfl))
/-- square (x, y) of the rows f, and none beyond -/
def on1 (f : Nat → Int64) (x y : Int32) : Bool := if ¬ x < 0 ∧ ¬ 64 ≤ x ∧ ¬ y < 0 ∧ ¬ 64 ≤ y then bb (f y.toNatClampNeg) x.toNatClampNeg else false
theorem on1_no {f : Nat → Int64} {x y : Int32} (h : x < 0 ∨ 64 ≤ x ∨ y < 0 ∨ 64 ≤ y) : on1 f x y = false := by
  unfold on1
  rw [if_neg]
  rintro ⟨h1, h2, h3, h4⟩
  rcases h with e | e | e | e
  · exact h1 e
  · exact h2 e
  · exact h3 e
  · exact h4 e
theorem on1_in (f : Nat → Int64) {x y : Nat} (hx2 : x < 64) (hy : y < 64) : on1 f (nI x) (nI y) = bb (f y) x := by
  unfold on1
  rw [if_pos ⟨nI_pos (by omega), nI_ge (b := 64) hx2 (by decide), nI_pos (by omega), nI_ge (b := 64) hy (by decide)⟩, nI_clamp (by omega), nI_clamp (by omega)]
theorem on1_N (f : Nat → Int64) {x y : Nat} (hx2 : x < 2 ^ 31) (hy : y < 2 ^ 31) : on1 f (nI x) (nI y) = bb (rwN f y) x := by
  unfold rwN
  rcases Nat.lt_or_ge y 64 with e | e
  · rw [if_pos e]
    rcases Nat.lt_or_ge x 64 with c | c
    · exact on1_in f c e
    · rw [on1_no (Or.inr (Or.inl (nI_le (a := 64) c hx2))), bb_big c]
  · rw [if_neg (by omega), bb_0]
    exact on1_no (Or.inr (Or.inr (Or.inr (nI_le (a := 64) e hy))))
theorem m1_neg : nI 0 - 1 < 0 := by decide
theorem on1_B (f : Nat → Int64) {x y : Nat} (hx2 : x < 2 ^ 31) (hy : y < 2 ^ 31) : on1 f (nI x) (nI y - 1) = bb (rwB f y) x := by
  unfold rwB
  rcases Nat.eq_zero_or_pos y with e | e
  · rw [e, if_neg (by decide), bb_0]
    exact on1_no (Or.inr (Or.inr (Or.inl m1_neg)))
  · rw [if_pos e, show nI y - 1 = nI (y - 1) from pk_sub (b := 1) e]
    exact on1_N f hx2 (by omega)
theorem on1_L (f : Nat → Int64) {x y : Nat} (hx2 : x < 2 ^ 31) (hy : y < 2 ^ 31) : on1 f (nI x - 1) (nI y) = (decide (1 ≤ x) && bb (rwN f y) (x - 1)) := by
  rcases Nat.eq_zero_or_pos x with e | e
  · rw [e]
    exact on1_no (Or.inl m1_neg)
  · rw [decide_eq_true (show 1 ≤ x from e), show nI x - 1 = nI (x - 1) from pk_sub (b := 1) e]
    exact on1_N f (by omega) hy
set_option maxRecDepth 20000 in
theorem c_mo_isOne (l : Launch) (h : hp_H) (s : St) (u : moT) (x y : Int32) (f : Nat → Int64) (hp : h[75]? = some (mo75 s u)) (hf : h[81]? = some (LA 64 f)) : hp_M l Y_mo_isOne [.ref 75, .int x, .int y] h true 0 0 (hq_P (.inl (some (.int (zI (on1 f x y))))) h) := by
  refine hp_start (T := T_mo_isOne) (by decide) rfl (fun σ => Nat.le_of_ble_eq_true rfl) (fun G C => ?_)
  refine hp_run_sound hp_co V_mo_isOne C (fun _ _ _ _ _ _ _ hq => hq) [] 24 _ _ _ _ _ _ _ ?_
  refine And.intro (fun q => ?_) (fun q1 => And.intro (fun q => ?_) (fun q2 => And.intro (fun q => ?_) (fun q3 => And.intro (fun q => ?_) (fun q4 => ?_))))
  · rw [on1_no (Or.inl q)]
    exact And.intro rfl (And.intro rfl (And.intro rfl rfl))
  · rw [on1_no (Or.inr (Or.inl q))]
    exact And.intro rfl (And.intro rfl (And.intro rfl rfl))
  · rw [on1_no (Or.inr (Or.inr (Or.inl q)))]
    exact And.intro rfl (And.intro rfl (And.intro rfl rfl))
  · rw [on1_no (Or.inr (Or.inr (Or.inr q)))]
    exact And.intro rfl (And.intro rfl (And.intro rfl rfl))
  · refine Exists.intro _ (And.intro hp ?_)
    obtain ⟨a, ha, rfl⟩ : ∃ a : Nat, a < 64 ∧ x = nI a := ((pk_ix x (n := 64) (by decide)).resolve_left q1).resolve_left q2
    obtain ⟨b, hb, rfl⟩ : ∃ a : Nat, a < 64 ∧ y = nI a := ((pk_ix y (n := 64) (by decide)).resolve_left q3).resolve_left q4
    refine Exists.intro 64 (Exists.intro f (And.intro hf (And.intro (in64 hb) ?_)))
    rw [cl64 hb]
    refine ic_P (c_mo_bit l h _ a ha) (Nat.le_refl _) (Nat.le_refl _) ?_
    rw [on1_in f ha hb]
    cases e : bb (f b) a with
    | false => exact And.intro (fun q => And.intro rfl (And.intro rfl (And.intro rfl rfl))) (fun q => absurd rfl q)
    | true => exact And.intro (fun q => absurd q (by decide)) (fun q => And.intro rfl (And.intro rfl (And.intro rfl rfl)))
set_option maxRecDepth 20000 in
theorem c_mo_isTwo (l : Launch) (h : hp_H) (s : St) (u : moT) (x y : Int32) (f : Nat → Int64) (hp : h[75]? = some (mo75 s u)) (hf : h[82]? = some (LA 64 f)) : hp_M l Y_mo_isTwo [.ref 75, .int x, .int y] h true 0 0 (hq_P (.inl (some (.int (zI (on1 f x y))))) h) := by
  refine hp_start (T := T_mo_isTwo) (by decide) rfl (fun σ => Nat.le_of_ble_eq_true rfl) (fun G C => ?_)
  refine hp_run_sound hp_co V_mo_isTwo C (fun _ _ _ _ _ _ _ hq => hq) [] 24 _ _ _ _ _ _ _ ?_
  refine And.intro (fun q => ?_) (fun q1 => And.intro (fun q => ?_) (fun q2 => And.intro (fun q => ?_) (fun q3 => And.intro (fun q => ?_) (fun q4 => ?_))))
  · rw [on1_no (Or.inl q)]
    exact And.intro rfl (And.intro rfl (And.intro rfl rfl))
  · rw [on1_no (Or.inr (Or.inl q))]
    exact And.intro rfl (And.intro rfl (And.intro rfl rfl))
  · rw [on1_no (Or.inr (Or.inr (Or.inl q)))]
    exact And.intro rfl (And.intro rfl (And.intro rfl rfl))
  · rw [on1_no (Or.inr (Or.inr (Or.inr q)))]
    exact And.intro rfl (And.intro rfl (And.intro rfl rfl))
  · refine Exists.intro _ (And.intro hp ?_)
    obtain ⟨a, ha, rfl⟩ : ∃ a : Nat, a < 64 ∧ x = nI a := ((pk_ix x (n := 64) (by decide)).resolve_left q1).resolve_left q2
    obtain ⟨b, hb, rfl⟩ : ∃ a : Nat, a < 64 ∧ y = nI a := ((pk_ix y (n := 64) (by decide)).resolve_left q3).resolve_left q4
    refine Exists.intro 64 (Exists.intro f (And.intro hf (And.intro (in64 hb) ?_)))
    rw [cl64 hb]
    refine ic_P (c_mo_bit l h _ a ha) (Nat.le_refl _) (Nat.le_refl _) ?_
    rw [on1_in f ha hb]
    cases e : bb (f b) a with
    | false => exact And.intro (fun q => And.intro rfl (And.intro rfl (And.intro rfl rfl))) (fun q => absurd rfl q)
    | true => exact And.intro (fun q => absurd q (by decide)) (fun q => And.intro rfl (And.intro rfl (And.intro rfl rfl)))
set_option maxRecDepth 20000 in
theorem c_mo_isLayer (l : Launch) (h : hp_H) (s : St) (u : moT) (x : Int32) (hp : h[75]? = some (mo75 s u)) : hp_M l Y_mo_isLayer [.ref 75, .int x] h true 0 0 (hq_P (.inl (some (.int (zI (decide (¬ x < 0 ∧ ¬ nI (s_B s + s_m s) ≤ x)))))) h) := by
  refine hp_start (T := T_mo_isLayer) (by decide) rfl (fun σ => Nat.le_of_ble_eq_true rfl) (fun G C => ?_)
  refine hp_run_sound hp_co V_mo_isLayer C (fun _ _ _ _ _ _ _ hq => hq) [] 16 _ _ _ _ _ _ _ ?_
  refine And.intro (fun q => ?_) (fun q => Exists.intro _ (And.intro hp (Exists.intro _ (And.intro hp (And.intro (fun q2 => ?_) (fun q2 => ?_))))))
  · rw [decide_eq_false (fun e => e.1 q)]
    exact And.intro rfl (And.intro rfl (And.intro rfl rfl))
  · have q3 : nI (s_B s) + nI (s_m s) ≤ x := q2
    rw [nI_add] at q3
    rw [decide_eq_false (fun e => e.2 q3)]
    exact And.intro rfl (And.intro rfl (And.intro rfl rfl))
  · have q3 : ¬ nI (s_B s) + nI (s_m s) ≤ x := q2
    rw [nI_add] at q3
    rw [decide_eq_true ⟨q, q3⟩]
    exact And.intro rfl (And.intro rfl (And.intro rfl rfl))
set_option maxRecDepth 20000 in
theorem c_mo_thrown (l : Launch) (h : hp_H) (s : St) (cd : Int32) (hS : moS h s cd) : hp_M l Y_mo_thrown [.ref 75] h true 0 0 (hq_P (.inl (some (.int cd))) h) := by
  obtain ⟨u, rfl, hC⟩ := hS
  refine hp_start (T := T_mo_thrown) (by decide) rfl (fun σ => Nat.le_of_ble_eq_true rfl) (fun G C => ?_)
  refine hp_run_sound hp_co V_mo_thrown C (fun _ _ _ _ _ _ _ hq => hq) [] 4 _ _ _ _ _ _ _ ?_
  refine Exists.intro _ (And.intro hC.1 ?_)
  exact And.intro rfl (And.intro rfl (And.intro rfl rfl))
/-- on which side of a border the area lies -/
def sdI (a b : Bool) : Int32 := if a = b then 0 else if a then 1 else -1
set_option maxRecDepth 20000 in
theorem c_mo_lying (l : Launch) (h : hp_H) (s : St) (u : moT) (x y : Nat) (hx2 : x < 2 ^ 31) (hy : y < 2 ^ 31) (f : Nat → Int64) (hp : h[75]? = some (mo75 s u)) (hf : h[81]? = some (LA 64 f)) : hp_M l Y_mo_lying [.ref 75, .int (nI x), .int (nI y)] h true 0 0 (hq_P (.inl (some (.int (sdI (bb (rwN f y) x) (bb (rwB f y) x))))) h) := by
  refine hp_start (T := T_mo_lying) (by decide) rfl (fun σ => Nat.le_of_ble_eq_true rfl) (fun G C => ?_)
  refine hp_run_sound hp_co V_mo_lying C (fun _ _ _ _ _ _ _ hq => hq) [] 30 _ _ _ _ _ _ _ ?_
  refine And.intro ⟨3, _, hp, rfl⟩ ?_
  refine ic_P (c_mo_isOne l h s u (nI x) (nI y) f hp hf) (Nat.le_refl _) (Nat.le_refl _) ?_
  refine And.intro ⟨3, _, hp, rfl⟩ ?_
  refine ic_P (c_mo_isOne l h s u (nI x) (nI y - 1) f hp hf) (Nat.le_refl _) (Nat.le_refl _) ?_
  rw [on1_N f hx2 hy, on1_B f hx2 hy]
  cases bb (rwN f y) x <;> cases bb (rwB f y) x
  · exact And.intro (fun q => absurd rfl q) (fun q => And.intro rfl (And.intro rfl (And.intro rfl rfl)))
  · exact And.intro (fun q => And.intro (fun _ => And.intro rfl (And.intro rfl (And.intro rfl rfl))) (fun q => absurd rfl q)) (fun q => absurd q (by decide))
  · exact And.intro (fun q => And.intro (fun q => absurd q (by decide)) (fun _ => And.intro rfl (And.intro rfl (And.intro rfl rfl)))) (fun q => absurd q (by decide))
  · exact And.intro (fun q => absurd rfl q) (fun q => And.intro rfl (And.intro rfl (And.intro rfl rfl)))
set_option maxRecDepth 20000 in
theorem c_mo_standing (l : Launch) (h : hp_H) (s : St) (u : moT) (x y : Nat) (hx2 : x < 2 ^ 31) (hy : y < 2 ^ 31) (f : Nat → Int64) (hp : h[75]? = some (mo75 s u)) (hf : h[81]? = some (LA 64 f)) : hp_M l Y_mo_standing [.ref 75, .int (nI x), .int (nI y)] h true 0 0 (hq_P (.inl (some (.int (sdI (bb (rwN f y) x) (decide (1 ≤ x) && bb (rwN f y) (x - 1)))))) h) := by
  refine hp_start (T := T_mo_standing) (by decide) rfl (fun σ => Nat.le_of_ble_eq_true rfl) (fun G C => ?_)
  refine hp_run_sound hp_co V_mo_standing C (fun _ _ _ _ _ _ _ hq => hq) [] 30 _ _ _ _ _ _ _ ?_
  refine And.intro ⟨3, _, hp, rfl⟩ ?_
  refine ic_P (c_mo_isOne l h s u (nI x) (nI y) f hp hf) (Nat.le_refl _) (Nat.le_refl _) ?_
  refine And.intro ⟨3, _, hp, rfl⟩ ?_
  refine ic_P (c_mo_isOne l h s u (nI x - 1) (nI y) f hp hf) (Nat.le_refl _) (Nat.le_refl _) ?_
  rw [on1_N f hx2 hy, on1_L f hx2 hy]
  cases bb (rwN f y) x <;> cases (decide (1 ≤ x) && bb (rwN f y) (x - 1))
  · exact And.intro (fun q => absurd rfl q) (fun q => And.intro rfl (And.intro rfl (And.intro rfl rfl)))
  · exact And.intro (fun q => And.intro (fun _ => And.intro rfl (And.intro rfl (And.intro rfl rfl))) (fun q => absurd rfl q)) (fun q => absurd q (by decide))
  · exact And.intro (fun q => And.intro (fun q => absurd q (by decide)) (fun _ => And.intro rfl (And.intro rfl (And.intro rfl rfl)))) (fun q => absurd q (by decide))
  · exact And.intro (fun q => absurd rfl q) (fun q => And.intro rfl (And.intro rfl (And.intro rfl rfl)))
