/-! the reference's constructor -/
def moN (B : Nat) : hp_H := [MO 0 B 0 0 1 0 0 0 0 0, NA0 16, NA0 16, NA0 256, NA0 256, LA0 1536, LA0 64, LA0 64, LA0 64, NA0 4096, NA0 4096, NA0 4096, BA0 4096, BA0 4096]
set_option maxRecDepth 40000 in
theorem c_mo_init (l : Launch) (c0 : hp_C) (B : Nat) (x : Int32) : hp_M l Y_mo_init [.ref 75, .int x] (esN c0 B ++ [.inr (3, hp_new 3)]) false 13 22752 (hq_P (.inl none) (esN c0 B ++ moN (bas x))) := by
  refine hp_start (T := T_mo_init) (by decide) rfl (fun σ => Nat.le_of_ble_eq_true rfl) (fun G C => ?_)
  have hb := (bas_ok x).2.2
  have t143 : ∀ v : Int32, v = nI (bas x) → hp_W G 143 [(0, .ref 75), (1, .int x)] [.int v, .ref 75] (esN c0 B ++ [.inr (3, [.int 0, .int 0, .ref 76, .ref 77, .ref 78, .ref 79, .int 0, .ref 80, .int 0, .int 1, .ref 81, .ref 82, .ref 83, .ref 84, .ref 85, .int 0, .ref 86, .ref 87, .ref 88, .int 0, .int 0, .int 0, .int 0]), NA0 16, NA0 16, NA0 256, NA0 256, LA0 1536, LA0 64, LA0 64, LA0 64, NA0 4096, NA0 4096, NA0 4096, BA0 4096, BA0 4096]) false 13 22752 := by
    intro v hv
    rw [hv]
    refine hp_run_sound hp_co V_mo_init C (fun _ _ _ _ _ _ _ hq => hq) [] 4 _ _ _ _ _ _ _ ?_
    refine And.intro (Or.inr ⟨rfl, rfl, rfl⟩) (Exists.intro _ (And.intro rfl (And.intro (Nat.le_of_ble_eq_true rfl) (And.intro rfl (And.intro rfl ?_)))))
    exact And.intro rfl (And.intro rfl (And.intro rfl rfl))
  have t121 : hp_W G 121 [(0, .ref 75), (1, .int x)] [] (esN c0 B ++ [.inr (3, [.int 0, .int 0, .ref 76, .ref 77, .ref 78, .ref 79, .int 0, .ref 80, .int 0, .int 1, .ref 81, .ref 82, .ref 83, .ref 84, .ref 85, .int 0, .ref 86, .ref 87, .ref 88, .int 0, .int 0, .int 0, .int 0]), NA0 16, NA0 16, NA0 256, NA0 256, LA0 1536, LA0 64, LA0 64, LA0 64, NA0 4096, NA0 4096, NA0 4096, BA0 4096, BA0 4096]) false 13 22752 := by
    refine hp_run_sound hp_co V_mo_init C (fun _ _ _ _ _ _ _ hq => hq) [143] 14 _ _ _ _ _ _ _ ?_
    refine And.intro (fun q => And.intro (fun q2 => ?_) (fun q2 => ?_)) (fun q => ?_)
    · refine t143 x ?_
      rw [hb, if_neg (Int32.not_lt.mpr q), if_neg (Int32.not_lt.mpr q2)]
    · refine t143 _ ?_
      rw [hb, if_neg (Int32.not_lt.mpr q), if_pos (Int32.not_le.mp q2)]
    · refine t143 _ ?_
      rw [hb, if_pos (Int32.not_le.mp q)]
      rfl
  refine hp_run_sound hp_co V_mo_init C (fun _ _ _ _ _ _ _ hq => hq) [121] 80 _ _ _ _ _ _ _ ?_
  refine Exists.intro 16 (And.intro rfl (And.intro (by decide) (And.intro (by decide) (And.intro (by decide) (And.intro (by decide) (And.intro ak_i ?_))))))
  refine And.intro (Or.inr ⟨rfl, rfl, rfl⟩) (Exists.intro _ (And.intro rfl (And.intro (Nat.le_of_ble_eq_true rfl) (And.intro rfl (And.intro rfl ?_)))))
  refine Exists.intro 16 (And.intro rfl (And.intro (by decide) (And.intro (by decide) (And.intro (by decide) (And.intro (by decide) (And.intro ak_i ?_))))))
  refine And.intro (Or.inr ⟨rfl, rfl, rfl⟩) (Exists.intro _ (And.intro rfl (And.intro (Nat.le_of_ble_eq_true rfl) (And.intro rfl (And.intro rfl ?_)))))
  refine Exists.intro 256 (And.intro rfl (And.intro (by decide) (And.intro (by decide) (And.intro (by decide) (And.intro (by decide) (And.intro ak_i ?_))))))
  refine And.intro (Or.inr ⟨rfl, rfl, rfl⟩) (Exists.intro _ (And.intro rfl (And.intro (Nat.le_of_ble_eq_true rfl) (And.intro rfl (And.intro rfl ?_)))))
  refine Exists.intro 256 (And.intro rfl (And.intro (by decide) (And.intro (by decide) (And.intro (by decide) (And.intro (by decide) (And.intro ak_i ?_))))))
  refine And.intro (Or.inr ⟨rfl, rfl, rfl⟩) (Exists.intro _ (And.intro rfl (And.intro (Nat.le_of_ble_eq_true rfl) (And.intro rfl (And.intro rfl ?_)))))
  refine Exists.intro 1536 (And.intro rfl (And.intro (by decide) (And.intro (by decide) (And.intro (by decide) (And.intro (by decide) (And.intro ak_l ?_))))))
  refine And.intro (Or.inr ⟨rfl, rfl, rfl⟩) (Exists.intro _ (And.intro rfl (And.intro (Nat.le_of_ble_eq_true rfl) (And.intro rfl (And.intro rfl ?_)))))
  refine And.intro (Or.inl rfl) (Exists.intro _ (And.intro rfl (And.intro (Nat.le_of_ble_eq_true rfl) (And.intro rfl (And.intro rfl ?_)))))
  refine Exists.intro 64 (And.intro rfl (And.intro (by decide) (And.intro (by decide) (And.intro (by decide) (And.intro (by decide) (And.intro ak_l ?_))))))
  refine And.intro (Or.inr ⟨rfl, rfl, rfl⟩) (Exists.intro _ (And.intro rfl (And.intro (Nat.le_of_ble_eq_true rfl) (And.intro rfl (And.intro rfl ?_)))))
  refine Exists.intro 64 (And.intro rfl (And.intro (by decide) (And.intro (by decide) (And.intro (by decide) (And.intro (by decide) (And.intro ak_l ?_))))))
  refine And.intro (Or.inr ⟨rfl, rfl, rfl⟩) (Exists.intro _ (And.intro rfl (And.intro (Nat.le_of_ble_eq_true rfl) (And.intro rfl (And.intro rfl ?_)))))
  refine Exists.intro 64 (And.intro rfl (And.intro (by decide) (And.intro (by decide) (And.intro (by decide) (And.intro (by decide) (And.intro ak_l ?_))))))
  refine And.intro (Or.inr ⟨rfl, rfl, rfl⟩) (Exists.intro _ (And.intro rfl (And.intro (Nat.le_of_ble_eq_true rfl) (And.intro rfl (And.intro rfl ?_)))))
  refine Exists.intro 4096 (And.intro rfl (And.intro (by decide) (And.intro (by decide) (And.intro (by decide) (And.intro (by decide) (And.intro ak_i ?_))))))
  refine And.intro (Or.inr ⟨rfl, rfl, rfl⟩) (Exists.intro _ (And.intro rfl (And.intro (Nat.le_of_ble_eq_true rfl) (And.intro rfl (And.intro rfl ?_)))))
  refine Exists.intro 4096 (And.intro rfl (And.intro (by decide) (And.intro (by decide) (And.intro (by decide) (And.intro (by decide) (And.intro ak_i ?_))))))
  refine And.intro (Or.inr ⟨rfl, rfl, rfl⟩) (Exists.intro _ (And.intro rfl (And.intro (Nat.le_of_ble_eq_true rfl) (And.intro rfl (And.intro rfl ?_)))))
  refine Exists.intro 4096 (And.intro rfl (And.intro (by decide) (And.intro (by decide) (And.intro (by decide) (And.intro (by decide) (And.intro ak_i ?_))))))
  refine And.intro (Or.inr ⟨rfl, rfl, rfl⟩) (Exists.intro _ (And.intro rfl (And.intro (Nat.le_of_ble_eq_true rfl) (And.intro rfl (And.intro rfl ?_)))))
  refine Exists.intro 4096 (And.intro rfl (And.intro (by decide) (And.intro (by decide) (And.intro (by decide) (And.intro (by decide) (And.intro ak_z ?_))))))
  refine And.intro (Or.inr ⟨rfl, rfl, rfl⟩) (Exists.intro _ (And.intro rfl (And.intro (Nat.le_of_ble_eq_true rfl) (And.intro rfl (And.intro rfl ?_)))))
  refine Exists.intro 4096 (And.intro rfl (And.intro (by decide) (And.intro (by decide) (And.intro (by decide) (And.intro (by decide) (And.intro ak_z ?_))))))
  refine And.intro (Or.inr ⟨rfl, rfl, rfl⟩) (Exists.intro _ (And.intro rfl (And.intro (Nat.le_of_ble_eq_true rfl) (And.intro rfl (And.intro rfl ?_)))))
  exact t121
theorem moS_new (c0 : hp_C) (B B' : Nat) (xs : hp_H) : moS (esN c0 B ++ moN B' ++ xs) (st0 B') 0 := by
  refine ⟨(0, 0, 0, 0, 0, 0), rfl, rfl, ⟨rfl, rfl, rfl, rfl, rfl⟩, ⟨_, rfl⟩, ⟨_, rfl⟩, ⟨_, rfl⟩, ⟨_, rfl⟩, ⟨_, rfl⟩, ⟨_, rfl⟩, ⟨fun _ => false, rfl⟩, ⟨fun _ => false, rfl⟩⟩
