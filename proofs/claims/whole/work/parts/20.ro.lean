/-! Rows -/
set_option maxRecDepth 20000 in
theorem c_ro_row (l : Launch) (h : hp_H) (a : Nat) (y : Int32) (f : Nat → Int64) (ha : h[a]? = some (.inl (.long, 64, .inr (.inl f)))) :
    hp_M l Y_ro_row [.ref a, .int y] h true 0 0 (fun r h' => h' = h ∧ r = .inl (some (.long (if 0 ≤ y ∧ y < 64 then f y.toNatClampNeg else 0)))) := by
  refine hp_start (T := T_ro_row) (by decide) rfl (fun σ => Nat.le_of_ble_eq_true rfl) (fun G C => ?_)
  refine hp_run_sound hp_co V_ro_row C (fun _ _ _ _ _ _ _ hq => hq) [] 20 _ _ _ _ _ _ _ ?_
  refine And.intro (fun c1 => ?_) (fun c1 => And.intro (fun c2 => ?_) (fun c2 => ?_))
  · refine And.intro rfl (And.intro rfl (And.intro rfl ?_))
    rw [if_neg (fun q => absurd c1 (Int32.not_lt.mpr q.1))]
    rfl
  · refine And.intro rfl (And.intro rfl (And.intro rfl ?_))
    rw [if_neg (fun q => absurd q.2 (Int32.not_lt.mpr c2))]
    rfl
  · refine Exists.intro 64 (Exists.intro f (And.intro ha (And.intro ?_ ?_)))
    · sorry
    · refine And.intro rfl (And.intro rfl (And.intro rfl ?_))
      rw [if_pos ⟨Int32.not_lt.mp c1, Int32.not_le.mp c2⟩]
