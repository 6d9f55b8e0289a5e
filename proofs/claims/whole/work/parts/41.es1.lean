/-! EdgeSweeps: small methods -/
theorem tw_es0 : tw_ok "EdgeSweeps" 62 66 0 := ⟨by decide +kernel, by decide +kernel, by decide +kernel, by decide +kernel⟩
theorem tw_es1 : tw_ok "EdgeSweeps" 73 77 1 := ⟨by decide +kernel, by decide +kernel, by decide +kernel, by decide +kernel⟩
theorem tw_es2 : tw_ok "EdgeSweeps" 94 98 2 := ⟨by decide +kernel, by decide +kernel, by decide +kernel, by decide +kernel⟩
abbrev ES (B m sn : Nat) : hp_C := .inr (0, [.int (nI B), .ref 2, .ref 40, .int (nI m), .int (nI sn), .ref 65, .ref 72, .ref 73, .ref 74])
abbrev MA : hp_C := .inl (.array .long, 24, .inr (.inr (.inr (.inr (fun p => some (41 + p))))))
set_option maxRecDepth 20000 in
theorem c_es_needIndex (l : Launch) (h : hp_H) (x n : Int32) (h1 : ¬ x < 0) (h2 : ¬ n ≤ x) : hp_M l Y_es_needIndex [.int x, .int n] h true 0 0 (hq_P (.inl none) h) := by
  refine hp_start (T := T_es_needIndex) (by decide) rfl (fun σ => Nat.le_of_ble_eq_true rfl) (fun G C => ?_)
  refine hp_run_sound hp_co V_es_needIndex C (fun _ _ _ _ _ _ _ hq => hq) [9] 10 _ _ _ _ _ _ _ ?_
  refine And.intro (fun q => absurd q h1) (fun q => And.intro (fun q => ?_) (fun q => absurd (Int32.not_le.mp h2) q))
  exact And.intro rfl (And.intro rfl (And.intro rfl rfl))
set_option maxRecDepth 20000 in
theorem c_es_needIndex_no (l : Launch) (h : hp_H) (x n : Int32) (h1 : x < 0 ∨ n ≤ x) : hp_M l Y_es_needIndex [.int x, .int n] h true 1 6 (hq_P (.inr 0) h) := by
  refine hp_start (T := T_es_needIndex) (by decide) rfl (fun σ => Nat.le_of_ble_eq_true rfl) (fun G C => ?_)
  have thr : ∀ lv, hp_W G 9 lv [] h true 0 0 := fun lv => hq_throw (ik := 62) (is := 219) (ic := 66) (ci := 0) (text := "no such thing") V_es_needIndex C tw_es0 (by decide) rfl rfl rfl rfl rfl rfl (by decide) (by decide) (by decide) (by decide) ⟨rfl, rfl⟩
  refine hp_run_sound hp_co V_es_needIndex C (fun _ _ _ _ _ _ _ hq => hq) [9] 10 _ _ _ _ _ _ _ ?_
  refine And.intro (fun q => thr _) (fun q => And.intro (fun q2 => ?_) (fun q2 => thr _))
  rcases h1 with e | e
  · exact absurd e q
  · exact absurd q2 (Int32.not_lt.mpr e)
set_option maxRecDepth 20000 in
theorem c_es_needLayer (l : Launch) (h : hp_H) (B m sn : Nat) (x : Int32) (hp : h[1]? = some (ES B m sn)) (h1 : ¬ x < 0) (h2 : ¬ nI (B + m) ≤ x) : hp_M l Y_es_needLayer [.ref 1, .int x] h true 0 0 (hq_P (.inl none) h) := by
  refine hp_start (T := T_es_needLayer) (by decide) rfl (fun σ => Nat.le_of_ble_eq_true rfl) (fun G C => ?_)
  refine hp_run_sound hp_co V_es_needLayer C (fun _ _ _ _ _ _ _ hq => hq) [] 20 _ _ _ _ _ _ _ ?_
  refine Exists.intro _ (And.intro hp ?_)
  refine Exists.intro _ (And.intro hp ?_)
  refine ic_P (c_es_needIndex l h x (nI B + nI m) h1 (by rw [nI_add]; exact h2)) (Nat.le_refl _) (Nat.le_refl _) ?_
  exact And.intro rfl (And.intro rfl (And.intro rfl rfl))
set_option maxRecDepth 20000 in
theorem c_es_needLayer_no (l : Launch) (h : hp_H) (B m sn : Nat) (x : Int32) (hp : h[1]? = some (ES B m sn)) (h1 : x < 0 ∨ nI (B + m) ≤ x) : hp_M l Y_es_needLayer [.ref 1, .int x] h true 1 6 (hq_P (.inr 0) h) := by
  refine hp_start (T := T_es_needLayer) (by decide) rfl (fun σ => Nat.le_of_ble_eq_true rfl) (fun G C => ?_)
  refine hp_run_sound hp_co V_es_needLayer C (fun _ _ _ _ _ _ _ hq => hq) [] 20 _ _ _ _ _ _ _ ?_
  refine Exists.intro _ (And.intro hp ?_)
  refine Exists.intro _ (And.intro hp ?_)
  refine ic_P (c_es_needIndex_no l h x (nI B + nI m) (by rw [nI_add]; exact h1)) (Nat.le_refl _) (Nat.le_refl _) ?_
  exact And.intro rfl rfl
set_option maxRecDepth 20000 in
theorem c_es_needRoom (l : Launch) (h : hp_H) (B m sn : Nat) (hm : m < 24) (hp : h[1]? = some (ES B m sn)) : hp_M l Y_es_needRoomForLayer [.ref 1] h true 0 0 (hq_P (.inl none) h) := by
  refine hp_start (T := T_es_needRoomForLayer) (by decide) rfl (fun σ => Nat.le_of_ble_eq_true rfl) (fun G C => ?_)
  refine hp_run_sound hp_co V_es_needRoomForLayer C (fun _ _ _ _ _ _ _ hq => hq) [9] 10 _ _ _ _ _ _ _ ?_
  refine Exists.intro _ (And.intro hp ?_)
  refine And.intro (fun q => ?_) (fun q => absurd (nI_lt (b := 24) hm (by decide)) q)
  exact And.intro rfl (And.intro rfl (And.intro rfl rfl))
set_option maxRecDepth 20000 in
theorem c_es_needRoom_no (l : Launch) (h : hp_H) (B m sn : Nat) (hm : m = 24) (hp : h[1]? = some (ES B m sn)) : hp_M l Y_es_needRoomForLayer [.ref 1] h true 1 6 (hq_P (.inr 1) h) := by
  refine hp_start (T := T_es_needRoomForLayer) (by decide) rfl (fun σ => Nat.le_of_ble_eq_true rfl) (fun G C => ?_)
  have thr : ∀ lv, hp_W G 9 lv [] h true 0 0 := fun lv => hq_throw (ik := 73) (is := 221) (ic := 77) (ci := 1) (text := "there are 24 made layers") V_es_needRoomForLayer C tw_es1 (by decide) rfl rfl rfl rfl rfl rfl (by decide) (by decide) (by decide) (by decide) ⟨rfl, rfl⟩
  refine hp_run_sound hp_co V_es_needRoomForLayer C (fun _ _ _ _ _ _ _ hq => hq) [9] 10 _ _ _ _ _ _ _ ?_
  refine Exists.intro _ (And.intro hp ?_)
  exact And.intro (fun q => absurd q (by subst hm; decide)) (fun q => thr _)
set_option maxRecDepth 20000 in
theorem c_es_isBase (l : Launch) (h : hp_H) (B m sn : Nat) (x : Int32) (hp : h[1]? = some (ES B m sn)) : hp_M l Y_es_isBase [.ref 1, .int x] h true 0 0 (hq_P (.inl (some (.int (zI (decide (¬ x < 0 ∧ ¬ nI B ≤ x)))))) h) := by
  refine hp_start (T := T_es_isBase) (by decide) rfl (fun σ => Nat.le_of_ble_eq_true rfl) (fun G C => ?_)
  refine hp_run_sound hp_co V_es_isBase C (fun _ _ _ _ _ _ _ hq => hq) [] 12 _ _ _ _ _ _ _ ?_
  refine And.intro (fun q => ?_) (fun q => Exists.intro _ (And.intro hp (And.intro (fun q2 => ?_) (fun q2 => ?_))))
  · rw [decide_eq_false (fun e => e.1 q)]
    exact And.intro rfl (And.intro rfl (And.intro rfl rfl))
  · rw [decide_eq_false (fun e => e.2 q2)]
    exact And.intro rfl (And.intro rfl (And.intro rfl rfl))
  · rw [decide_eq_true ⟨q, q2⟩]
    exact And.intro rfl (And.intro rfl (And.intro rfl rfl))
set_option maxRecDepth 20000 in
theorem c_es_addMade (l : Launch) (h : hp_H) (B m sn : Nat) (hp : h[1]? = some (ES B m sn)) : hp_M l Y_es_addMade [.ref 1] h false 0 0 (hq_P (.inl (some (.int (nI (B + m))))) (h.set 1 (ES B (m + 1) sn))) := by
  refine hp_start (T := T_es_addMade) (by decide) rfl (fun σ => Nat.le_of_ble_eq_true rfl) (fun G C => ?_)
  refine hp_run_sound hp_co V_es_addMade C (fun _ _ _ _ _ _ _ hq => hq) [] 20 _ _ _ _ _ _ _ ?_
  refine Exists.intro _ (And.intro hp ?_)
  refine Exists.intro _ (And.intro hp ?_)
  refine Exists.intro _ (And.intro hp ?_)
  refine And.intro (Or.inl rfl) (Exists.intro _ (And.intro hp (And.intro (Nat.le_of_ble_eq_true rfl) (And.intro rfl (And.intro rfl ?_)))))
  rw [← nI_add B m]
  unfold ES
  rw [← nI_1 m]
  exact And.intro rfl (And.intro rfl (And.intro rfl rfl))
