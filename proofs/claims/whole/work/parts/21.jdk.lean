/-! small facts on heaps by place -/
theorem hq_self {h : hp_H} {a : Nat} {c : hp_C} (ha : h[a]? = some c) : h.set a c = h := by
  apply List.ext_getElem?
  intro i
  by_cases e : a = i
  · subst e
    rw [List.getElem?_set_self (List.getElem?_eq_some_iff.mp ha).1, ha]
  · rw [List.getElem?_set_ne e]
theorem hq_get {h : hp_H} {a : Nat} {c d : hp_C} (ha : h[a]? = some c) : (h.set a d)[a]? = some d := List.getElem?_set_self (List.getElem?_eq_some_iff.mp ha).1
theorem hq_ne {h : hp_H} {a b : Nat} {d : hp_C} (hn : a ≠ b) : (h.set a d)[b]? = h[b]? := List.getElem?_set_ne hn
theorem hq_set (h : hp_H) (a : Nat) (c d : hp_C) : (h.set a c).set a d = h.set a d := List.set_set ..
theorem in_nI {n N : Nat} (h : n < N) (hN : N < 2 ^ 31) : vp_in (nI n) N := vp_in_nI h hN
/-! the JDK's own -/
set_option maxRecDepth 20000 in
theorem c_jm_min (l : Launch) (h : hp_H) (a b : Int32) : hp_M l Y_jm_min [.int a, .int b] h true 0 0 (fun r h' => h' = h ∧ r = .inl (some (.int (if a ≤ b then a else b)))) := by
  refine hp_start (T := T_jm_min) (by decide +kernel) rfl (fun σ => Nat.le_of_ble_eq_true rfl) (fun G C => ?_)
  refine hp_run_sound hp_co V_jm_min C (fun _ _ _ _ _ _ _ hq => hq) [] 20 _ _ _ _ _ _ _ ?_
  refine And.intro (fun c1 => ?_) (fun c1 => ?_)
  · refine And.intro rfl (And.intro rfl (And.intro rfl ?_))
    first | rw [if_pos c1] | rw [if_neg (Int32.not_le.mpr c1)] | rw [if_neg c1]
  · refine And.intro rfl (And.intro rfl (And.intro rfl ?_))
    first | rw [if_neg c1] | rw [if_pos (Int32.not_lt.mp c1)] | rw [if_pos c1]
set_option maxRecDepth 20000 in
theorem c_jm_max (l : Launch) (h : hp_H) (a b : Int32) : hp_M l Y_jm_max [.int a, .int b] h true 0 0 (fun r h' => h' = h ∧ r = .inl (some (.int (if b ≤ a then a else b)))) := by
  refine hp_start (T := T_jm_max) (by decide +kernel) rfl (fun σ => Nat.le_of_ble_eq_true rfl) (fun G C => ?_)
  refine hp_run_sound hp_co V_jm_max C (fun _ _ _ _ _ _ _ hq => hq) [] 20 _ _ _ _ _ _ _ ?_
  refine And.intro (fun c1 => ?_) (fun c1 => ?_)
  · refine And.intro rfl (And.intro rfl (And.intro rfl ?_))
    first | rw [if_pos c1] | rw [if_neg (Int32.not_le.mpr c1)] | rw [if_neg c1]
  · refine And.intro rfl (And.intro rfl (And.intro rfl ?_))
    first | rw [if_neg c1] | rw [if_pos (Int32.not_lt.mp c1)] | rw [if_pos c1]
set_option maxRecDepth 20000 in
theorem c_ja_fill (l : Launch) (h : hp_H) (a N : Nat) (v : Int64) (f : Nat → Int64) (hN : N < 2 ^ 31) (ha : h[a]? = some (.inl (.long, N, .inr (.inl f)))) :
    hp_M l Y_ja_fill [.ref a, .long v] h false 0 0 (fun r h' => r = .inl none ∧ h' = h.set a (.inl (.long, N, .inr (.inl fun j => if j < N then v else f j)))) := by
  refine hp_start (T := T_ja_fill) (by decide +kernel) rfl (fun σ => Nat.le_of_ble_eq_true rfl) (fun G C => ?_)
  have key : ∀ (m i : Nat), i + m = N → hp_W G 6 [(0, .ref a), (1, .long v), (3, .int (nI i)), (4, .int (nI N))] [] (h.set a (.inl (.long, N, .inr (.inl fun j => if j < i then v else f j)))) false 0 0 := by
    intro m
    induction m with
    | zero =>
      intro i hi
      have e : i = N := by omega
      subst e
      refine hp_run_sound hp_co V_ja_fill C (fun _ _ _ _ _ _ _ hq => hq) [6] 6 _ _ _ _ _ _ _ ?_
      refine And.intro (fun c => ?_) (fun c => absurd (nI_le (Nat.le_refl i) hN) c)
      exact And.intro rfl (And.intro rfl (And.intro rfl rfl))
    | succ m ih =>
      intro i hi
      refine hp_run_sound hp_co V_ja_fill C (fun _ _ _ _ _ _ _ hq => hq) [6] 12 _ _ _ _ _ _ _ ?_
      refine And.intro (fun c => absurd c (nI_ge (by omega) hN)) (fun c => ?_)
      refine Exists.intro N (Exists.intro _ (And.intro (hq_get ha) (And.intro (in_nI (by omega) hN) ?_)))
      have hW := ih (i + 1) (by omega)
      rw [hq_set, nI_clamp (by omega)]
      have e1 : vp_updL (fun j => if j < i then v else f j) i v = fun j => if j < i + 1 then v else f j := by
        funext j
        unfold vp_updL
        by_cases h1 : j = i
        · rw [if_pos h1, if_pos (by omega)]
        · rw [if_neg h1]
          show (if j < i then v else f j) = _
          by_cases h2 : j < i
          · rw [if_pos h2, if_pos (by omega)]
          · rw [if_neg h2, if_neg (by omega)]
      rw [e1]
      rw [← nI_1 i] at hW
      exact hW
  have h0 := key N 0 (by omega)
  refine hp_run_sound hp_co V_ja_fill C (fun _ _ _ _ _ _ _ hq => hq) [6] 6 _ _ _ _ _ _ _ ?_
  refine Exists.intro _ (Exists.intro N (Exists.intro _ (And.intro ha ?_)))
  have e0 : h.set a (.inl (.long, N, .inr (.inl fun j => if j < 0 then v else f j))) = h := by
    have : (fun j => if j < 0 then v else f j) = f := by
      funext j
      rw [if_neg (by omega)]
    rw [this]
    exact hq_self ha
  rw [e0] at h0
  exact hp_W_dirty h0
