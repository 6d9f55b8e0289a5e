/-! the reference: findEdge, edge -/
def ly (F : Nat → Int64) (v u : Nat) : Int32 := sdI (bb (rwN F v) u) (bb (rwB F v) u)
def fE (b : Bool) (f : Nat → Int64) : Nat → Int64 := if b then f else xtu f
theorem stand_ly (f : Nat → Int64) {v u : Nat} (hv : v ≤ 64) (hu : u < 64) : sdI (bb (rwN f u) v) (decide (1 ≤ v) && bb (rwN f u) (v - 1)) = ly (xtu f) v u := by
  unfold ly
  have e1 : bb (rwN f u) v = bb (rwN (xtu f) v) u := by
    unfold rwN
    rw [if_pos hu]
    by_cases c : v < 64
    · rw [if_pos c, bb_xtu f c hu]
    · rw [if_neg c, bb_0, bb_big (by omega)]
  have e2 : (decide (1 ≤ v) && bb (rwN f u) (v - 1)) = bb (rwB (xtu f) v) u := by
    unfold rwB rwN
    by_cases c : 0 < v
    · rw [if_pos c, decide_eq_true (show 1 ≤ v from c), if_pos hu, if_pos (show v - 1 < 64 by omega), bb_xtu f (by omega) hu]
      rfl
    · rw [if_neg c, decide_eq_false (show ¬ 1 ≤ v from c), bb_0]
      rfl
  rw [e1, e2]
/-- what stood before, on the same line -/
def lyB (F : Nat → Int64) (v u : Nat) : Int32 := if u = 0 then 0 else ly F v (u - 1)
theorem sd_1 (a b : Bool) : (sdI a b = 1 ↔ (a && !b) = true) ∧ (sdI a b = -1 ↔ (b && !a) = true) ∧ (sdI a b = 0 ↔ a = b) := by cases a <;> cases b <;> decide
theorem bb_xab (F : Nat → Int64) (v : Nat) {u : Nat} (hu : u < 64) : bb (xab F v) u = (bb (rwN F v) u && !bb (rwB F v) u) := by
  unfold xab
  rw [bb_and, bb_not _ hu]
theorem bb_xbe (F : Nat → Int64) (v : Nat) {u : Nat} (hu : u < 64) : bb (xbe F v) u = (bb (rwB F v) u && !bb (rwN F v) u) := by
  unfold xbe
  rw [bb_and, bb_not _ hu]
theorem edge_iff (F : Nat → Int64) (v : Nat) {u : Nat} (hu : u < 64) : bb (xls F v) u = true ↔ ¬ ly F v u = 0 ∧ ¬ ly F v u = lyB F v u := by
  unfold xls lyB ly
  rw [bb_or, bb_xst _ hu, bb_xst _ hu, bb_xab F v hu, bb_xbe F v hu]
  by_cases c : u = 0
  · subst c
    rw [if_pos rfl]
    generalize bb (xab F v) (0 - 1) = p
    generalize bb (xbe F v) (0 - 1) = q
    cases p <;> cases q <;> cases bb (rwN F v) 0 <;> cases bb (rwB F v) 0 <;> decide
  · rw [if_neg c, decide_eq_true (show 1 ≤ u by omega), bb_xab F v (show u - 1 < 64 by omega), bb_xbe F v (show u - 1 < 64 by omega)]
    cases bb (rwN F v) u <;> cases bb (rwB F v) u <;> cases bb (rwN F v) (u - 1) <;> cases bb (rwB F v) (u - 1) <;> decide
def isE (F : Nat → Int64) (k : Int32) (y x : Nat) : Prop := y ≤ 64 ∧ x < 64 ∧ bb (xls F y) x = true ∧ k = nI (lyn F y + cn (bb (xls F y)) x)
/-- where the edge that starts at (x, y) ends -/
def eTo (F : Nat → Int64) (y x : Nat) : Nat := xre (if bb (xab F y) x then xab F y else xbe F y) x
theorem eTo_spec (F : Nat → Int64) {y x : Nat} (hx2 : x < 64) : x ≤ eTo F y x ∧ eTo F y x ≤ 64 ∧ (bb (xls F y) x = true → (∀ i, x ≤ i → i < eTo F y x → ly F y i = ly F y x) ∧ (eTo F y x < 64 → ¬ ly F y (eTo F y x) = ly F y x)) := by
  have h := xre_spec (if bb (xab F y) x then xab F y else xbe F y) hx2
  refine ⟨h.1, h.2.1, fun hs => ?_⟩
  have hy := (edge_iff F y hx2).mp hs
  have key : ∀ i, i < 64 → (bb (if bb (xab F y) x then xab F y else xbe F y) i = true ↔ ly F y i = ly F y x) := fun i hi => by
    have hn : ¬ sdI (bb (rwN F y) x) (bb (rwB F y) x) = 0 := hy.1
    unfold ly
    cases hab : bb (xab F y) x with
    | true =>
      rw [if_pos rfl, bb_xab F y hi]
      rw [bb_xab F y hx2] at hab
      rw [(sd_1 _ _).1.mpr hab]
      exact (sd_1 _ _).1.symm
    | false =>
      rw [if_neg (by decide), bb_xbe F y hi]
      rw [bb_xab F y hx2] at hab
      have hbe : (bb (rwB F y) x && !bb (rwN F y) x) = true := by
        cases h1 : bb (rwN F y) x <;> cases h2 : bb (rwB F y) x <;> rw [h1, h2] at hab hn
        · exact absurd rfl hn
        · rfl
        · cases hab
        · exact absurd rfl hn
      rw [(sd_1 _ _).2.1.mpr hbe]
      exact (sd_1 _ _).2.1.symm
  refine ⟨fun i h1 h2 => (key i (by have := h.2.1; unfold eTo at h2; omega)).mp (h.2.2.1 i h1 h2), fun h1 h2 => ?_⟩
  have := (key _ h1).mpr h2
  rw [show bb (if bb (xab F y) x then xab F y else xbe F y) (eTo F y x) = false from h.2.2.2] at this
  cases this
set_option maxRecDepth 20000 in
theorem c_mo_findEdge (l : Launch) (h : hp_H) (s : St) (u : moT) (k : Int32) (b : Bool) (f : Nat → Int64) (hC : moC h s u) (hf : h[81]? = some (LA 64 f)) :
    hp_M l Y_mo_findEdge [.ref 75, .int k, .int (zI b)] h false 0 0 (fun r h' => (∃ y x, isE (fE b f) k y x ∧ r = .inl (some (.int (-1))) ∧ hx [75] h h' ∧ moC h' s (u.1, u.2.1, nI y, nI x, nI (eTo (fE b f) y x), ly (fE b f) y x)) ∨ ((∀ y x, ¬ isE (fE b f) k y x) ∧ r = .inl (some (.int (nI (lyn (fE b f) 65)))) ∧ h' = h)) := by
  refine hp_start (T := T_mo_findEdge) (by decide) rfl (fun σ => Nat.le_of_ble_eq_true rfl) (fun G C => ?_)
  generalize hFe : fE b f = F at C
  -- lying or standing, as b says
  have ML : b = true → ∀ {h1 : hp_H} {u1 : moT}, h1[75]? = some (mo75 s u1) → h1[81]? = some (LA 64 f) → ∀ v w, v ≤ 64 → w < 64 → hp_M l Y_mo_lying [.ref 75, .int (nI w), .int (nI v)] h1 true 0 0 (hq_P (.inl (some (.int (ly F v w)))) h1) := by
    intro hb h1 u1 a1 a2 v w hv hw
    subst hb
    have := c_mo_lying l h1 s u1 w v (by omega) (by omega) f a1 a2
    rw [← hFe]
    exact this
  have MS : b = false → ∀ {h1 : hp_H} {u1 : moT}, h1[75]? = some (mo75 s u1) → h1[81]? = some (LA 64 f) → ∀ v w, v ≤ 64 → w < 64 → hp_M l Y_mo_standing [.ref 75, .int (nI v), .int (nI w)] h1 true 0 0 (hq_P (.inl (some (.int (ly F v w)))) h1) := by
    intro hb h1 u1 a1 a2 v w hv hw
    subst hb
    have := c_mo_standing l h1 s u1 v w (by omega) (by omega) f a1 a2
    rw [stand_ly f hv hw] at this
    rw [← hFe]
    exact this
  have hLy : ∀ y, y ≤ 65 → lyn F y ≤ 4160 := fun y hy => lyn_le F hy
  have outer : ∀ (m y : Nat), y + m = 65 → (∀ y' x', y' < y → ¬ isE F k y' x') → hp_W G 5 [(0, .ref 75), (1, .int k), (2, .int (zI b)), (3, .int (nI (lyn F y))), (4, .int (nI y))] [] h false 0 0 := by
    intro m
    induction m with
    | zero =>
      intro y hy hn
      have e : y = 65 := by omega
      subst e
      refine hp_run_sound hp_co V_mo_findEdge C (fun _ _ _ _ _ _ _ hq => hq) [5] 8 _ _ _ _ _ _ _ ?_
      refine And.intro (fun c => ?_) (fun c => absurd (nI_lt (a := 64) (by decide) (by decide)) c)
      exact And.intro rfl (And.intro rfl (Or.inr ⟨fun y x hk => hn y x (by have := hk.1; omega) hk, rfl, rfl⟩))
    | succ m ih =>
      intro y hy hn
      have inner : ∀ (m' x : Nat), x + m' = 64 → (∀ x', x' < x → ¬ isE F k y x') → hp_W G 15 [(0, .ref 75), (1, .int k), (2, .int (zI b)), (3, .int (nI (lyn F y + cn (bb (xls F y)) x))), (4, .int (nI y)), (5, .int (nI x))] [] h false 0 0 := by
        intro m'
        induction m' with
        | zero =>
          intro x hx2 hn2
          have e : x = 64 := by omega
          subst e
          have hW := ih (y + 1) (by omega) (fun y' x' h1 hk => by
            rcases Nat.lt_or_ge y' y with c | c
            · exact hn y' x' c hk
            · have e : y' = y := by omega
              subst e
              exact hn2 x' hk.2.1 hk)
          rw [lyn_s, ← nI_1 y] at hW
          refine hp_run_sound hp_co V_mo_findEdge C (fun _ _ _ _ _ _ _ hq => hq) [5] 8 _ _ _ _ _ _ _ ?_
          refine And.intro (fun c => ?_) (fun c => absurd (nI_le (Nat.le_refl 64) (by decide)) c)
          exact hp_W_pick [0, 1, 2, 3, 4] hW
        | succ m' im =>
          intro x hx2 hn2
          have hx64 : x < 64 := by omega
          have hW := im (x + 1) (by omega)
          rw [cn_s, ← nI_1 x] at hW
          have hct := cn_le (bb (xls F y)) x
          have hlt := hLy y (by omega)
          -- both are known
          have t85 : hp_W G 85 [(0, .ref 75), (1, .int k), (2, .int (zI b)), (3, .int (nI (lyn F y + cn (bb (xls F y)) x))), (4, .int (nI y)), (5, .int (nI x)), (6, .int (ly F y x)), (7, .int (lyB F y x))] [] h false 0 0 := by
            have t188 : bb (xls F y) x = false → hp_W G 188 [(0, .ref 75), (1, .int k), (2, .int (zI b)), (3, .int (nI (lyn F y + cn (bb (xls F y)) x))), (4, .int (nI y)), (5, .int (nI x)), (6, .int (ly F y x)), (7, .int (lyB F y x))] [] h false 0 0 := fun hs => by
              rw [hs] at hW
              refine hp_run_sound hp_co V_mo_findEdge C (fun _ _ _ _ _ _ _ hq => hq) [15] 4 _ _ _ _ _ _ _ ?_
              exact hp_W_pick [0, 1, 2, 3, 4, 5] (hW (fun x' h1 hk => by
                rcases Nat.lt_or_ge x' x with c | c
                · exact hn2 x' c hk
                · rw [show x' = x by omega] at hk
                  rw [hk.2.2.1] at hs
                  cases hs))
            have off : (¬ ly F y x = 0 ∧ ¬ ly F y x = lyB F y x → False) → bb (xls F y) x = false := fun c => by
              cases hs : bb (xls F y) x with
              | false => rfl
              | true => exact absurd ((edge_iff F y hx64).mp hs) c
            refine hp_run_sound hp_co V_mo_findEdge C (fun _ _ _ _ _ _ _ hq => hq) [100, 188] 8 _ _ _ _ _ _ _ ?_
            refine And.intro (fun q => t188 (off (fun c => c.1 q))) (fun q1 => And.intro (fun q2 => ?_) (fun q2 => t188 (off (fun c => c.2 q2))))
            have hs := (edge_iff F y hx64).mpr ⟨q1, q2⟩
            refine hp_run_sound hp_co V_mo_findEdge C (fun _ _ _ _ _ _ _ hq => hq) [129, 15] 24 _ _ _ _ _ _ _ ?_
            refine And.intro (fun q => ?_) (fun q => ?_)
            · rw [hs] at hW
              have hW2 := hW (fun x' h1 hk => by
                rcases Nat.lt_or_ge x' x with c | c
                · exact hn2 x' c hk
                · rw [show x' = x by omega] at hk
                  exact q hk.2.2.2.symm)
              rw [show lyn F y + (cn (bb (xls F y)) x + true.toNat) = lyn F y + cn (bb (xls F y)) x + 1 from rfl, ← nI_1] at hW2
              exact hp_W_pick [0, 1, 2, 3, 4, 5] hW2
            · have hE : isE F k y x := ⟨by omega, hx64, hs, q.symm⟩
              obtain ⟨g1, g2, g3⟩ := eTo_spec F (y := y) hx64
              obtain ⟨g3, g4⟩ := g3 hs
              -- the end of the edge
              have T : ∀ (m2 t : Nat) (H : hp_H), t + m2 = eTo F y x → x ≤ t → hx [75] h H → moC H s (u.1, u.2.1, nI y, nI x, nI t, ly F y x) → ∀ z3 z7 : Int32, hp_W G 129 [(0, .ref 75), (1, .int k), (2, .int (zI b)), (3, .int z3), (4, .int (nI y)), (5, .int (nI x)), (6, .int (ly F y x)), (7, .int z7)] [] H false 0 0 := by
                intro m2
                induction m2 with
                | zero =>
                  intro t H ht hxt hxh hCH z3 z7
                  have e : t = eTo F y x := by omega
                  have k81 := hx_at hxh (by decide) hf
                  have t183 : hp_W G 183 [(0, .ref 75), (1, .int k), (2, .int (zI b)), (3, .int z3), (4, .int (nI y)), (5, .int (nI x)), (6, .int (ly F y x)), (7, .int z7)] [] H false 0 0 := by
                    refine hp_run_sound hp_co V_mo_findEdge C (fun _ _ _ _ _ _ _ hq => hq) [] 4 _ _ _ _ _ _ _ ?_
                    refine And.intro rfl (And.intro rfl (Or.inl ⟨y, x, hE, rfl, hxh, ?_⟩))
                    rw [← e]
                    exact hCH
                  refine hp_run_sound hp_co V_mo_findEdge C (fun _ _ _ _ _ _ _ hq => hq) [183, 170] 20 _ _ _ _ _ _ _ ?_
                  refine Exists.intro _ (And.intro hCH.1 ?_)
                  refine And.intro (fun _ => t183) (fun q3 => ?_)
                  have ht64 : t < 64 := Nat.lt_of_not_le (fun c => q3 (nI_le (a := 64) c (by omega)))
                  have hne : ¬ ly F y t = ly F y x := by rw [e]; exact g4 (by omega)
                  refine And.intro (fun qb => ?_) (fun qb => ?_)
                  · have hbb : b = false := (zI_eq b).mp qb
                    refine Exists.intro _ (And.intro hCH.1 ?_)
                    refine And.intro ⟨3, _, hCH.1, rfl⟩ ?_
                    refine ic_P (MS hbb hCH.1 k81 y t (by omega) ht64) (Nat.le_refl _) (Nat.le_refl _) ?_
                    exact And.intro (fun _ => t183) (fun q => absurd q hne)
                  · have hbb : b = true := zI_t qb
                    refine Exists.intro _ (And.intro hCH.1 ?_)
                    refine And.intro ⟨3, _, hCH.1, rfl⟩ ?_
                    refine ic_P (ML hbb hCH.1 k81 y t (by omega) ht64) (Nat.le_refl _) (Nat.le_refl _) ?_
                    exact And.intro (fun _ => t183) (fun q => absurd q hne)
                | succ m2 i2 =>
                  intro t H ht hxt hxh hCH z3 z7
                  have ht64 : t < 64 := by omega
                  have k81 := hx_at hxh (by decide) hf
                  have heq : ly F y t = ly F y x := g3 t hxt (by omega)
                  have t170 : hp_W G 170 [(0, .ref 75), (1, .int k), (2, .int (zI b)), (3, .int z3), (4, .int (nI y)), (5, .int (nI x)), (6, .int (ly F y x)), (7, .int z7)] [] H false 0 0 := by
                    have hC2 := moC_set hCH s (u.1, u.2.1, nI y, nI x, nI (t + 1), ly F y x) hCH.2.1
                    have hW3 := i2 (t + 1) _ (by omega) (by omega) (hx_set hxh _ (by decide)) hC2 z3 z7
                    unfold mo75 MO at hW3
                    rw [show ((u.1, u.2.1, nI y, nI x, nI (t + 1), ly F y x) : moT).2.2.2.2.1 = nI t + hp_c 1 from (nI_1 _).symm] at hW3
                    refine hp_run_sound hp_co V_mo_findEdge C (fun _ _ _ _ _ _ _ hq => hq) [129] 10 _ _ _ _ _ _ _ ?_
                    refine Exists.intro _ (And.intro hCH.1 ?_)
                    refine And.intro (Or.inl rfl) (Exists.intro _ (And.intro hCH.1 (And.intro (Nat.le_of_ble_eq_true rfl) (And.intro rfl (And.intro rfl ?_)))))
                    exact hW3
                  refine hp_run_sound hp_co V_mo_findEdge C (fun _ _ _ _ _ _ _ hq => hq) [183, 170] 20 _ _ _ _ _ _ _ ?_
                  refine Exists.intro _ (And.intro hCH.1 ?_)
                  refine And.intro (fun c => absurd c (nI_ge (b := 64) ht64 (by decide))) (fun _ => ?_)
                  refine And.intro (fun qb => ?_) (fun qb => ?_)
                  · have hbb : b = false := (zI_eq b).mp qb
                    refine Exists.intro _ (And.intro hCH.1 ?_)
                    refine And.intro ⟨3, _, hCH.1, rfl⟩ ?_
                    refine ic_P (MS hbb hCH.1 k81 y t (by omega) ht64) (Nat.le_refl _) (Nat.le_refl _) ?_
                    exact And.intro (fun q => absurd heq q) (fun _ => t170)
                  · have hbb : b = true := zI_t qb
                    refine Exists.intro _ (And.intro hCH.1 ?_)
                    refine And.intro ⟨3, _, hCH.1, rfl⟩ ?_
                    refine ic_P (ML hbb hCH.1 k81 y t (by omega) ht64) (Nat.le_refl _) (Nat.le_refl _) ?_
                    exact And.intro (fun q => absurd heq q) (fun _ => t170)
              have c1 := moC_set hC s (u.1, u.2.1, nI y, u.2.2.2) hC.2.1
              have c2 := moC_set c1 s (u.1, u.2.1, nI y, nI x, u.2.2.2.2) c1.2.1
              have c3 := moC_set c2 s (u.1, u.2.1, nI y, nI x, nI x, u.2.2.2.2.2) c2.2.1
              have c4 := moC_set c3 s (u.1, u.2.1, nI y, nI x, nI x, ly F y x) c3.2.1
              refine And.intro (Or.inl rfl) (Exists.intro _ (And.intro hC.1 (And.intro (Nat.le_of_ble_eq_true rfl) (And.intro rfl (And.intro rfl ?_)))))
              refine And.intro (Or.inl rfl) (Exists.intro _ (And.intro c1.1 (And.intro (Nat.le_of_ble_eq_true rfl) (And.intro rfl (And.intro rfl ?_)))))
              refine And.intro (Or.inl rfl) (Exists.intro _ (And.intro c2.1 (And.intro (Nat.le_of_ble_eq_true rfl) (And.intro rfl (And.intro rfl ?_)))))
              refine And.intro (Or.inl rfl) (Exists.intro _ (And.intro c3.1 (And.intro (Nat.le_of_ble_eq_true rfl) (And.intro rfl (And.intro rfl ?_)))))
              exact T (eTo F y x - x) x _ (by omega) (Nat.le_refl _) (hx_set (hx_set (hx_set (hx_set (hx_rf _ _) _ (by decide)) _ (by decide)) _ (by decide)) _ (by decide)) c4 _ _
          -- the square before
          have t47 : hp_W G 47 [(0, .ref 75), (1, .int k), (2, .int (zI b)), (3, .int (nI (lyn F y + cn (bb (xls F y)) x))), (4, .int (nI y)), (5, .int (nI x)), (6, .int (ly F y x))] [] h false 0 0 := by
            refine hp_run_sound hp_co V_mo_findEdge C (fun _ _ _ _ _ _ _ hq => hq) [85] 20 _ _ _ _ _ _ _ ?_
            refine And.intro (fun q => ?_) (fun q => ?_)
            · have hx0 : ¬ x = 0 := fun e => q (by rw [e]; rfl)
              unfold lyB at t85
              rw [if_neg hx0] at t85
              have e3 : nI x - 1 = nI (x - 1) := pk_sub (b := 1) (by omega)
              refine And.intro (fun qb => ?_) (fun qb => ?_)
              · have hbb : b = false := (zI_eq b).mp qb
                have hM := MS hbb hC.1 hf y (x - 1) (by omega) (by omega)
                rw [← e3] at hM
                refine And.intro ⟨3, _, hC.1, rfl⟩ ?_
                refine ic_P hM (Nat.le_refl _) (Nat.le_refl _) ?_
                exact t85
              · have hbb : b = true := zI_t qb
                have hM := ML hbb hC.1 hf y (x - 1) (by omega) (by omega)
                rw [← e3] at hM
                refine And.intro ⟨3, _, hC.1, rfl⟩ ?_
                refine ic_P hM (Nat.le_refl _) (Nat.le_refl _) ?_
                exact t85
            · have hx0 : x = 0 := (nI_eq (b := 0) (by omega) (by decide)).mp q
              unfold lyB at t85
              rw [if_pos hx0] at t85
              exact t85
          refine hp_run_sound hp_co V_mo_findEdge C (fun _ _ _ _ _ _ _ hq => hq) [47] 20 _ _ _ _ _ _ _ ?_
          refine And.intro (fun c => absurd c (nI_ge (b := 64) hx64 (by decide))) (fun c => ?_)
          refine And.intro (fun qb => ?_) (fun qb => ?_)
          · have hbb : b = false := (zI_eq b).mp qb
            refine And.intro ⟨3, _, hC.1, rfl⟩ ?_
            refine ic_P (MS hbb hC.1 hf y x (by omega) hx64) (Nat.le_refl _) (Nat.le_refl _) ?_
            exact t47
          · have hbb : b = true := zI_t qb
            refine And.intro ⟨3, _, hC.1, rfl⟩ ?_
            refine ic_P (ML hbb hC.1 hf y x (by omega) hx64) (Nat.le_refl _) (Nat.le_refl _) ?_
            exact t47
      have h0 := inner 64 0 (by omega) (fun x' h1 => absurd h1 (Nat.not_lt_zero _))
      refine hp_run_sound hp_co V_mo_findEdge C (fun _ _ _ _ _ _ _ hq => hq) [15] 8 _ _ _ _ _ _ _ ?_
      refine And.intro (fun c => absurd c (nI_nlt (a := 64) (by omega) (by decide))) (fun c => ?_)
      exact h0
  have h0 := outer 65 0 (by omega) (fun y' x' h1 => absurd h1 (Nat.not_lt_zero _))
  refine hp_run_sound hp_co V_mo_findEdge C (fun _ _ _ _ _ _ _ hq => hq) [5] 8 _ _ _ _ _ _ _ ?_
  exact hp_W_dirty h0
