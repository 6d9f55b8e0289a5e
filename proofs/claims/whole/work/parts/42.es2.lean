/-! THE STATE that class and reference share: base layers, made, strips, polygons; each polygon's layer, corners, their x and y; the rows of made layers -/
abbrev St : Type := Nat × Nat × Nat × Nat × (Nat → Nat) × (Nat → Nat) × (Nat → Nat → Nat) × (Nat → Nat → Nat) × (Nat → Nat → Int64)
abbrev s_B (s : St) : Nat := s.1
abbrev s_m (s : St) : Nat := s.2.1
abbrev s_n (s : St) : Nat := s.2.2.1
abbrev s_c (s : St) : Nat := s.2.2.2.1
abbrev s_lay (s : St) : Nat → Nat := s.2.2.2.2.1
abbrev s_k (s : St) : Nat → Nat := s.2.2.2.2.2.1
abbrev s_X (s : St) : Nat → Nat → Nat := s.2.2.2.2.2.2.1
abbrev s_Y (s : St) : Nat → Nat → Nat := s.2.2.2.2.2.2.2.1
abbrev s_D (s : St) : Nat → Nat → Int64 := s.2.2.2.2.2.2.2.2
def stOK (s : St) : Prop := 1 ≤ s_B s ∧ s_B s ≤ 65536 ∧ s_m s ≤ 24 ∧ 1 ≤ s_n s ∧ s_n s ≤ 64 ∧ s_c s ≤ 16 ∧ (∀ p, p < 16 → s_lay s p ≤ 65536) ∧ (∀ p, p < 16 → s_k s p ≤ 16) ∧ (∀ p j, p < 16 → s_X s p j ≤ 64) ∧ ∀ p j, p < 16 → s_Y s p j ≤ 64
/-- what the class works in -/
def wkS (h : hp_H) : Prop := (∃ f, h[39]? = some (LA 65 f)) ∧ (∃ rc sc, h[65]? = some (PA rc sc)) ∧ (∃ f, h[66]? = some (LA 2048 f)) ∧ (∃ g, h[67]? = some (NA 2048 g)) ∧ (∃ g, h[68]? = some (NA 2048 g)) ∧ (∃ g, h[69]? = some (NA 2048 g)) ∧ (∃ M, h[70]? = some (BA 2048 M)) ∧ (∃ g, h[71]? = some (NA 65 g)) ∧ (∃ f, h[72]? = some (LA 64 f)) ∧ (∃ f, h[73]? = some (LA 64 f)) ∧ ∃ f, h[74]? = some (LA 64 f)
def esS (h : hp_H) (s : St) : Prop := h[1]? = some (ES (s_B s) (s_m s) (s_n s)) ∧ poS h (s_c s) (s_lay s) (s_k s) (s_X s) (s_Y s) ∧ h[40]? = some MA ∧ (∀ i, i < 24 → h[41 + i]? = some (LA 64 (s_D s i))) ∧ wkS h
/-- square (x, y) of layer L -/
def inL (s : St) (L x y : Nat) : Bool := if L < s_B s then lin (s_c s) (s_lay s) (s_k s) (s_X s) (s_Y s) L x y else bb (s_D s (L - s_B s) y) x
/-- the places that calls work in, and those of made layers -/
def wkP : List Nat := [39, 65, 66, 67, 68, 69, 70, 71, 72, 73, 74]
theorem esS_hx {h h' : hp_H} {s : St} (hS : esS h s) (hH : hx wkP h h') (hw : wkS h') : esS h' s := by
  obtain ⟨a1, a2, a3, a4, a5⟩ := hS
  exact ⟨hx_at hH (by decide) a1, poS_hx a2 hH (by decide), hx_at hH (by decide) a3, fun i hi => hx_at hH (by unfold wkP; simp; omega) (a4 i hi), hw⟩
/-- arrays of the work stay arrays where only contents change -/
theorem wkS_hx {h h' : hp_H} {ps : List Nat} (hH : hx ps h h') (hw : wkS h) (h39 : 39 ∉ ps ∨ ∃ f, h'[39]? = some (LA 65 f)) (h65 : 65 ∉ ps ∨ ∃ rc sc, h'[65]? = some (PA rc sc)) (h66 : 66 ∉ ps ∨ ∃ f, h'[66]? = some (LA 2048 f)) (h67 : 67 ∉ ps ∨ ∃ f, h'[67]? = some (NA 2048 f)) (h68 : 68 ∉ ps ∨ ∃ f, h'[68]? = some (NA 2048 f)) (h69 : 69 ∉ ps ∨ ∃ f, h'[69]? = some (NA 2048 f)) (h70 : 70 ∉ ps ∨ ∃ f, h'[70]? = some (BA 2048 f)) (h71 : 71 ∉ ps ∨ ∃ f, h'[71]? = some (NA 65 f)) (h72 : 72 ∉ ps ∨ ∃ f, h'[72]? = some (LA 64 f)) (h73 : 73 ∉ ps ∨ ∃ f, h'[73]? = some (LA 64 f)) (h74 : 74 ∉ ps ∨ ∃ f, h'[74]? = some (LA 64 f)) : wkS h' := by
  obtain ⟨⟨w1, v1⟩, ⟨w2, u2, v2⟩, ⟨w3, v3⟩, ⟨w4, v4⟩, ⟨w5, v5⟩, ⟨w6, v6⟩, ⟨w7, v7⟩, ⟨w8, v8⟩, ⟨w9, v9⟩, ⟨w10, v10⟩, ⟨w11, v11⟩⟩ := hw
  refine ⟨?_, ?_, ?_, ?_, ?_, ?_, ?_, ?_, ?_, ?_, ?_⟩
  · exact h39.elim (fun q => ⟨_, hx_at hH q v1⟩) id
  · exact h65.elim (fun q => ⟨_, _, hx_at hH q v2⟩) id
  · exact h66.elim (fun q => ⟨_, hx_at hH q v3⟩) id
  · exact h67.elim (fun q => ⟨_, hx_at hH q v4⟩) id
  · exact h68.elim (fun q => ⟨_, hx_at hH q v5⟩) id
  · exact h69.elim (fun q => ⟨_, hx_at hH q v6⟩) id
  · exact h70.elim (fun q => ⟨_, hx_at hH q v7⟩) id
  · exact h71.elim (fun q => ⟨_, hx_at hH q v8⟩) id
  · exact h72.elim (fun q => ⟨_, hx_at hH q v9⟩) id
  · exact h73.elim (fun q => ⟨_, hx_at hH q v10⟩) id
  · exact h74.elim (fun q => ⟨_, hx_at hH q v11⟩) id
/-- rows f show layer L -/
def shw (s : St) (L : Nat) (f : Nat → Int64) : Prop := ∀ y x, y < 64 → x < 64 → bb (f y) x = inL s L x y
set_option maxRecDepth 20000 in
theorem c_es_areaOf (l : Launch) (h : hp_H) (s : St) (L a : Nat) (hO : stOK s) (hS : esS h s) (hL : L < s_B s + s_m s) (ha : a = 72 ∨ a = 73) :
    hp_M l Y_es_areaOf [.ref 1, .int (nI L), .ref a] h false 0 0 (fun q h' => ∃ b f, q = .inl (some (.ref b)) ∧ (b = a ∨ (41 ≤ b ∧ b < 41 + s_m s)) ∧ h'[b]? = some (LA 64 f) ∧ shw s L f ∧ hx [39, a] h h' ∧ esS h' s) := by
  obtain ⟨o1, o2, o3, o4, o5, o6, o7, o8, o9, o10⟩ := hO
  obtain ⟨a1, a2, a3, a4, a5⟩ := id hS
  obtain ⟨⟨w1, v1⟩, ⟨w2, u2, v2⟩, ⟨w3, v3⟩, ⟨w4, v4⟩, ⟨w5, v5⟩, ⟨w6, v6⟩, ⟨w7, v7⟩, ⟨w8, v8⟩, ⟨w9, v9⟩, ⟨w10, v10⟩, ⟨w11, v11⟩⟩ := id a5
  refine hp_start (T := T_es_areaOf) (by decide) rfl (fun σ => Nat.le_of_ble_eq_true rfl) (fun G C => ?_)
  have hsub : (nI L - nI (s_B s)).toInt = (L : Int) - s_B s := pk_sub_toInt (by omega) (by omega)
  have tail : L < s_B s → ∀ v, hp_W G 26 [(0, .ref 1), (1, .int (nI L)), (2, .ref a), (3, v)] [] h true 0 0 := by
    intro hlt v
    refine hp_run_sound hp_co V_es_areaOf C (fun _ _ _ _ _ _ _ hq => hq) [] 20 _ _ _ _ _ _ _ ?_
    refine Exists.intro _ (And.intro a1 ?_)
    refine And.intro ⟨1, _, a2.1, rfl⟩ ?_
    have hfa : ∃ f, h[a]? = some (LA 64 f) := by
      rcases ha with e | e
      · subst e; exact ⟨_, v9⟩
      · subst e; exact ⟨_, v10⟩
    obtain ⟨f0, hf0⟩ := hfa
    have hra : isR a := by unfold isR; omega
    refine ic_Q (c_po_paint l h (s_c s) a L o6 (by omega) (s_lay s) (s_k s) (s_X s) (s_Y s) (fun p hp => by have := o7 p hp; omega) o8 o9 o10 f0 w1 hra hf0 v1 a2) (Nat.le_refl _) (Nat.le_refl _) (fun r h2 hq => ?_)
    obtain ⟨rfl, x1, ⟨fl, k1⟩, f', k2, k3⟩ := hq
    refine And.intro rfl (And.intro ⟨_, rfl⟩ ⟨a, f', rfl, Or.inl rfl, k2, fun y x hy hx2 => ?_, x1, ?_⟩)
    · unfold inL
      rw [if_pos hlt]
      exact k3 y x hy hx2
    · refine esS_hx hS (hx_tr x1 (hx_rf [] _) _ (fun q hq => ?_) (fun q hq => by cases hq)) ?_
      · unfold wkP
        simp at hq ⊢
        omega
      · have m : ∀ q, q ≠ 39 → q ≠ a → q ∉ [39, a] := fun q q1 q2 e => by simp at e; omega
        refine wkS_hx x1 a5 (Or.inr ⟨_, k1⟩) (Or.inl (m _ (by omega) (by omega))) (Or.inl (m _ (by omega) (by omega))) (Or.inl (m _ (by omega) (by omega))) (Or.inl (m _ (by omega) (by omega))) (Or.inl (m _ (by omega) (by omega))) (Or.inl (m _ (by omega) (by omega))) (Or.inl (m _ (by omega) (by omega))) ?_ ?_ (Or.inl (m _ (by omega) (by omega)))
        · rcases ha with e | e
          · subst e; exact Or.inr ⟨_, k2⟩
          · exact Or.inl (m _ (by omega) (by omega))
        · rcases ha with e | e
          · exact Or.inl (m _ (by omega) (by omega))
          · subst e; exact Or.inr ⟨_, k2⟩
  refine hp_run_sound hp_co V_es_areaOf C (fun _ _ _ _ _ _ _ hq => hq) [26] 20 _ _ _ _ _ _ _ ?_
  refine Exists.intro _ (And.intro a1 ?_)
  refine And.intro (fun q => ?_) (fun q => ?_)
  · have q1 : nI L - nI (s_B s) < 0 := q
    have q2 := Int32.lt_iff_toInt_lt.mp q1
    rw [hsub] at q2
    exact tail (by have : (0 : Int32).toInt = 0 := rfl; omega) _
  · have q1 : ¬ nI L - nI (s_B s) < 0 := q
    have hge : s_B s ≤ L := by
      rcases Nat.lt_or_ge L (s_B s) with e | e
      · exact absurd (pk_sneg (by omega) e) q1
      · exact e
    have es : nI L - nI (s_B s) = nI (L - s_B s) := pk_sub hge
    refine Exists.intro _ (And.intro a1 ?_)
    refine And.intro (fun q => ?_) (fun q => ?_)
    · have q3 : nI (s_m s) ≤ nI L - nI (s_B s) := q
      rw [es] at q3
      exact absurd q3 (nI_ge (by omega) (by omega))
    · refine Exists.intro _ (And.intro a1 ?_)
      refine Exists.intro _ (Exists.intro 24 (Exists.intro _ (And.intro a3 (And.intro (show vp_in (nI L - nI (s_B s)) 24 from by rw [es]; exact in_nI (by omega) (by decide)) ?_))))
      refine And.intro rfl (And.intro ⟨_, rfl⟩ ⟨41 + (L - s_B s), s_D s (L - s_B s), ?_, Or.inr ⟨Nat.le_add_right _ _, Nat.add_lt_add_left (show L - s_B s < s_m s by omega) 41⟩, a4 _ (by omega), fun y x hy hx2 => ?_, hx_rf _ _, hS⟩)
      · show (Sum.inl (some (Value.ref (41 + (nI L - nI (s_B s)).toNatClampNeg))) : hp_R) = _
        rw [es, nI_clamp (by omega)]
      · unfold inL
        rw [if_neg (by omega)]
set_option maxRecDepth 20000 in
theorem c_es_markTouching (l : Launch) (h : hp_H) (s : St) (a b : Nat) (f e : Nat → Int64) (ha : isR a) (ha2 : a ≠ 74) (hb : isR b) (hf : h[a]? = some (LA 64 f)) (he : h[b]? = some (LA 64 e)) (hS : esS h s) :
    hp_M l Y_es_markTouching [.ref 1, .ref a, .ref b] h false 0 0 (fun q h' => q = .inl none ∧ hx [65, 66, 67, 69, 70, 71, 74] h h' ∧ esS h' s ∧ ∃ g o M t, fS f h' g o ∧ h'[70]? = some (BA 2048 M) ∧ (∀ y, y < 64 → t y = xtu (fun x => xrs true (xtu (fun v => xrs true (e v) 1) x) 1) y) ∧ ∀ i, i < cn (hdb g) (rs f 64) → (M i = true ↔ mtQ f t o 64 0 i)) := by
  obtain ⟨a1, a2, a3, a4, a5⟩ := id hS
  obtain ⟨⟨w1, v1⟩, ⟨w2, u2, v2⟩, ⟨w3, v3⟩, ⟨w4, v4⟩, ⟨w5, v5⟩, ⟨w6, v6⟩, ⟨w7, v7⟩, ⟨w8, v8⟩, ⟨w9, v9⟩, ⟨w10, v10⟩, ⟨w11, v11⟩⟩ := id a5
  refine hp_start (T := T_es_markTouching) (by decide) rfl (fun σ => Nat.le_of_ble_eq_true rfl) (fun G C => ?_)
  refine hp_run_sound hp_co V_es_markTouching C (fun _ _ _ _ _ _ _ hq => hq) [] 30 _ _ _ _ _ _ _ ?_
  refine Exists.intro _ (And.intro a1 ?_)
  refine ic_Q (c_ro_resize l h b 74 1 1 true (by decide) (by decide) e w11 he v11) (Nat.le_refl _) (Nat.le_refl _) (fun r h1 hq => ?_)
  obtain ⟨rfl, t, rfl, ht⟩ := hq
  have n74 : ∀ q, q ≠ 74 → 74 ≠ q := fun q e => e.symm
  refine Exists.intro _ (And.intro (by rw [hq_ne (by decide)]; exact a1) ?_)
  refine And.intro ⟨2, _, (by rw [hq_ne (by decide)]; exact v2), rfl⟩ ?_
  refine ic_Q (c_pa_findShapes l (h.set 74 (LA 64 t)) a w2 u2 f w3 w4 w6 w8 ha (by rw [hq_ne (n74 _ ha2)]; exact hf) (by rw [hq_ne (by decide)]; exact v2) (by rw [hq_ne (by decide)]; exact v3) (by rw [hq_ne (by decide)]; exact v4) (by rw [hq_ne (by decide)]; exact v6) (by rw [hq_ne (by decide)]; exact v8)) (Nat.le_refl _) (Nat.le_refl _) (fun r h2 hq => ?_)
  obtain ⟨rfl, x2, g, o, hfs⟩ := hq
  have x1 : hx [65, 66, 67, 69, 70, 71, 74] h (h.set 74 (LA 64 t)) := hx_set (hx_rf _ _) _ (by decide)
  have x12 : hx [65, 66, 67, 69, 70, 71, 74] h h2 := hx_tr x1 x2 _ (fun q hq => hq) (by decide)
  have k74 : h2[74]? = some (LA 64 t) := hx_at x2 (by decide) (hq_get v11)
  have k70 : h2[70]? = some (BA 2048 w7) := hx_at x2 (by decide) (by rw [hq_ne (by decide)]; exact v7)
  have k1 : h2[1]? = some (ES (s_B s) (s_m s) (s_n s)) := hx_at x12 (by decide) a1
  obtain ⟨p65, r65, hp65⟩ : ∃ rc sc, h2[65]? = some (PA rc sc) := by
    obtain ⟨q1, q2, q3, -⟩ := hfs
    exact ⟨_, _, q3⟩
  refine Exists.intro _ (And.intro k1 ?_)
  refine Exists.intro _ (And.intro k1 ?_)
  refine And.intro ⟨2, _, hp65, rfl⟩ ?_
  refine ic_Q (c_pa_markMeeting l h2 74 f t g o w7 (Or.inr ⟨by omega, by omega⟩) k74 hfs k70) (Nat.le_refl _) (Nat.le_refl _) (fun r h3 hq => ?_)
  obtain ⟨rfl, M, rfl, hM⟩ := hq
  have x3 : hx [65, 66, 67, 69, 70, 71, 74] h (h2.set 70 (BA 2048 M)) := hx_set x12 _ (by decide)
  have x23 : hx [70] h2 (h2.set 70 (BA 2048 M)) := hx_set (hx_rf _ _) _ (by decide)
  have hfs3 : fS f (h2.set 70 (BA 2048 M)) g o := fS_hx hfs x23 (by decide) (by decide) (by decide) (by decide) (by decide)
  have k70' : (h2.set 70 (BA 2048 M))[70]? = some (BA 2048 M) := hq_get k70
  refine And.intro rfl (And.intro rfl (And.intro rfl ⟨x3, ?_, g, o, M, t, hfs3, k70', ht, hM⟩))
  refine esS_hx hS (hx_tr x3 (hx_rf [] _) _ (by decide) (by decide)) ?_
  obtain ⟨q1, q2, z65, z66, z67, z69, z71, -⟩ := id hfs3
  exact wkS_hx x3 a5 (Or.inl (by decide)) (Or.inr ⟨_, _, z65⟩) (Or.inr ⟨_, z66⟩) (Or.inr ⟨_, z67⟩) (Or.inl (by decide)) (Or.inr ⟨_, z69⟩) (Or.inr ⟨_, k70'⟩) (Or.inr ⟨_, z71⟩) (Or.inl (by decide)) (Or.inl (by decide)) (Or.inr ⟨_, hx_at x23 (by decide) k74⟩)
