/-! the reference's constructor -/
def moN (B : Nat) : hp_H := [MO 0 B 0 0 1 0 0 0 0 0, NA0 16, NA0 16, NA0 256, NA0 256, LA0 1536, LA0 64, LA0 64, LA0 64, NA0 4096, NA0 4096, NA0 4096, BA0 4096, BA0 4096]
set_option maxHeartbeats 8000000 in
set_option maxRecDepth 40000 in
theorem c_mo_init (l : Launch) (c0 : hp_C) (B : Nat) (x : Int32) : hp_M l Y_mo_init [.ref 75, .int x] (esN c0 B ++ [.inr (3, hp_new 3)]) false 13 22752 (hq_P (.inl none) (esN c0 B ++ moN (bas x))) := by
  refine hp_start (T := T_mo_init) (by decide) rfl (fun σ => Nat.le_of_ble_eq_true rfl) (fun G C => ?_)
  have hb := (bas_ok x).2.2
  have t143 : ∀ v : Int32, v = nI (bas x) → hp_W G 143 [(0, .ref 75), (1, .int x)] [.int v, .ref 75] (esN c0 B ++ [.inr (3, [.int 0, .int 0, .ref 76, .ref 77, .ref 78, .ref 79, .int 0, .ref 80, .int 0, .int 1, .ref 81, .ref 82, .ref 83, .ref 84, .ref 85, .int 0, .ref 86, .ref 87, .ref 88, .int 0, .int 0, .int 0, .int 0]), NA0 16, NA0 16, NA0 256, NA0 256, LA0 1536, LA0 64, LA0 64, LA0 64, NA0 4096, NA0 4096, NA0 4096, BA0 4096, BA0 4096]) false 13 22752 := by
    intro v hv
    rw [hv]
    refine hp_run_sound hp_co V_mo_init C (fun _ _ _ _ _ _ _ hq => hq) [] 4 _ _ _ _ _ _ _ ?_
    refine And.intro (Or.inr ⟨rfl, rfl, rfl⟩) (Exists.intro _ (And.intro rfl (And.intro (Nat.le_of_ble_eq_true rfl) (And.intro rfl (And.intro rfl ?_)))))
    exact And.intro rfl (And.intro rfl (And.intro rfl rfl))
  have t121 : hp_W G 121 [(0, .ref 75), (1, .int x)] [] (esN c0 B ++ [.inr (3, [.int 0, .int 0, .ref 76, .ref 77, .ref 78, .ref 79, .int 0, .ref 80, .int 0, .int 1, .ref 81, .ref 82, .ref 83, .ref 84, .ref 85, .int 0, .ref 86, .ref 87, .ref 88, .int 0, .int 0, .int 0, .int 0]), NA0 16, NA0 16, NA0 256, NA0 256, LA0 1536, LA0 64, LA0 64, LA0 64, NA0 4096, NA0 4096, NA0 4096, BA0 4096, BA0 4096]) false 13 22752 := by
    refine hp_run_sound hp_co V_mo_init C (fun _ _ _ _ _ _ _ hq => hq) [143] 14 _ _ _ _ _ _ _ ?_
    refine And.intro (fun q => And.intro (fun q2 => ?_) (fun q2 => ?_)) (fun q => ?_)
    · refine t143 x ?_
      rw [hb, if_neg (Int32.not_lt.mpr (show (1 : Int32) ≤ x from q)), if_neg (Int32.not_lt.mpr (show x ≤ (65536 : Int32) from q2))]
    · refine t143 _ ?_
      rw [hb, if_neg (Int32.not_lt.mpr (show (1 : Int32) ≤ x from q)), if_pos (Int32.not_le.mp (show ¬ x ≤ (65536 : Int32) from q2))]
    · refine t143 _ ?_
      rw [hb, if_pos (Int32.not_le.mp (show ¬ (1 : Int32) ≤ x from q))]
      rfl
  have t112 : hp_W G 112 [(0, .ref 75), (1, .int x)] [] (esN c0 B ++ [.inr (3, [.int 0, .int 0, .ref 76, .ref 77, .ref 78, .ref 79, .int 0, .ref 80, .int 0, .int 1, .ref 81, .ref 82, .ref 83, .ref 84, .ref 85, .int 0, .ref 86, .ref 87, .null, .int 0, .int 0, .int 0, .int 0]), NA0 16, NA0 16, NA0 256, NA0 256, LA0 1536, LA0 64, LA0 64, LA0 64, NA0 4096, NA0 4096, NA0 4096, BA0 4096]) false 12 18656 := by
    refine hp_run_sound hp_co V_mo_init C (fun _ _ _ _ _ _ _ hq => hq) [121] 10 _ _ _ _ _ _ _ ?_
    refine Exists.intro 4096 (And.intro rfl (And.intro (by decide) (And.intro (by decide) (And.intro (by decide) (And.intro (by decide) (And.intro ak_z ?_))))))
    refine And.intro (Or.inr ⟨rfl, rfl, rfl⟩) (Exists.intro _ (And.intro rfl (And.intro (Nat.le_of_ble_eq_true rfl) (And.intro rfl (And.intro rfl ?_)))))
    exact t121
  have t103 : hp_W G 103 [(0, .ref 75), (1, .int x)] [] (esN c0 B ++ [.inr (3, [.int 0, .int 0, .ref 76, .ref 77, .ref 78, .ref 79, .int 0, .ref 80, .int 0, .int 1, .ref 81, .ref 82, .ref 83, .ref 84, .ref 85, .int 0, .ref 86, .null, .null, .int 0, .int 0, .int 0, .int 0]), NA0 16, NA0 16, NA0 256, NA0 256, LA0 1536, LA0 64, LA0 64, LA0 64, NA0 4096, NA0 4096, NA0 4096]) false 11 14560 := by
    refine hp_run_sound hp_co V_mo_init C (fun _ _ _ _ _ _ _ hq => hq) [112] 10 _ _ _ _ _ _ _ ?_
    refine Exists.intro 4096 (And.intro rfl (And.intro (by decide) (And.intro (by decide) (And.intro (by decide) (And.intro (by decide) (And.intro ak_z ?_))))))
    refine And.intro (Or.inr ⟨rfl, rfl, rfl⟩) (Exists.intro _ (And.intro rfl (And.intro (Nat.le_of_ble_eq_true rfl) (And.intro rfl (And.intro rfl ?_)))))
    exact t112
  have t94 : hp_W G 94 [(0, .ref 75), (1, .int x)] [] (esN c0 B ++ [.inr (3, [.int 0, .int 0, .ref 76, .ref 77, .ref 78, .ref 79, .int 0, .ref 80, .int 0, .int 1, .ref 81, .ref 82, .ref 83, .ref 84, .ref 85, .int 0, .null, .null, .null, .int 0, .int 0, .int 0, .int 0]), NA0 16, NA0 16, NA0 256, NA0 256, LA0 1536, LA0 64, LA0 64, LA0 64, NA0 4096, NA0 4096]) false 10 10464 := by
    refine hp_run_sound hp_co V_mo_init C (fun _ _ _ _ _ _ _ hq => hq) [103] 10 _ _ _ _ _ _ _ ?_
    refine Exists.intro 4096 (And.intro rfl (And.intro (by decide) (And.intro (by decide) (And.intro (by decide) (And.intro (by decide) (And.intro ak_i ?_))))))
    refine And.intro (Or.inr ⟨rfl, rfl, rfl⟩) (Exists.intro _ (And.intro rfl (And.intro (Nat.le_of_ble_eq_true rfl) (And.intro rfl (And.intro rfl ?_)))))
    exact t103
  have t85 : hp_W G 85 [(0, .ref 75), (1, .int x)] [] (esN c0 B ++ [.inr (3, [.int 0, .int 0, .ref 76, .ref 77, .ref 78, .ref 79, .int 0, .ref 80, .int 0, .int 1, .ref 81, .ref 82, .ref 83, .ref 84, .null, .int 0, .null, .null, .null, .int 0, .int 0, .int 0, .int 0]), NA0 16, NA0 16, NA0 256, NA0 256, LA0 1536, LA0 64, LA0 64, LA0 64, NA0 4096]) false 9 6368 := by
    refine hp_run_sound hp_co V_mo_init C (fun _ _ _ _ _ _ _ hq => hq) [94] 10 _ _ _ _ _ _ _ ?_
    refine Exists.intro 4096 (And.intro rfl (And.intro (by decide) (And.intro (by decide) (And.intro (by decide) (And.intro (by decide) (And.intro ak_i ?_))))))
    refine And.intro (Or.inr ⟨rfl, rfl, rfl⟩) (Exists.intro _ (And.intro rfl (And.intro (Nat.le_of_ble_eq_true rfl) (And.intro rfl (And.intro rfl ?_)))))
    exact t94
  have t76 : hp_W G 76 [(0, .ref 75), (1, .int x)] [] (esN c0 B ++ [.inr (3, [.int 0, .int 0, .ref 76, .ref 77, .ref 78, .ref 79, .int 0, .ref 80, .int 0, .int 1, .ref 81, .ref 82, .ref 83, .null, .null, .int 0, .null, .null, .null, .int 0, .int 0, .int 0, .int 0]), NA0 16, NA0 16, NA0 256, NA0 256, LA0 1536, LA0 64, LA0 64, LA0 64]) false 8 2272 := by
    refine hp_run_sound hp_co V_mo_init C (fun _ _ _ _ _ _ _ hq => hq) [85] 10 _ _ _ _ _ _ _ ?_
    refine Exists.intro 4096 (And.intro rfl (And.intro (by decide) (And.intro (by decide) (And.intro (by decide) (And.intro (by decide) (And.intro ak_i ?_))))))
    refine And.intro (Or.inr ⟨rfl, rfl, rfl⟩) (Exists.intro _ (And.intro rfl (And.intro (Nat.le_of_ble_eq_true rfl) (And.intro rfl (And.intro rfl ?_)))))
    exact t85
  have t68 : hp_W G 68 [(0, .ref 75), (1, .int x)] [] (esN c0 B ++ [.inr (3, [.int 0, .int 0, .ref 76, .ref 77, .ref 78, .ref 79, .int 0, .ref 80, .int 0, .int 1, .ref 81, .ref 82, .null, .null, .null, .int 0, .null, .null, .null, .int 0, .int 0, .int 0, .int 0]), NA0 16, NA0 16, NA0 256, NA0 256, LA0 1536, LA0 64, LA0 64]) false 7 2208 := by
    refine hp_run_sound hp_co V_mo_init C (fun _ _ _ _ _ _ _ hq => hq) [76] 10 _ _ _ _ _ _ _ ?_
    refine Exists.intro 64 (And.intro rfl (And.intro (by decide) (And.intro (by decide) (And.intro (by decide) (And.intro (by decide) (And.intro ak_l ?_))))))
    refine And.intro (Or.inr ⟨rfl, rfl, rfl⟩) (Exists.intro _ (And.intro rfl (And.intro (Nat.le_of_ble_eq_true rfl) (And.intro rfl (And.intro rfl ?_)))))
    exact t76
  have t60 : hp_W G 60 [(0, .ref 75), (1, .int x)] [] (esN c0 B ++ [.inr (3, [.int 0, .int 0, .ref 76, .ref 77, .ref 78, .ref 79, .int 0, .ref 80, .int 0, .int 1, .ref 81, .null, .null, .null, .null, .int 0, .null, .null, .null, .int 0, .int 0, .int 0, .int 0]), NA0 16, NA0 16, NA0 256, NA0 256, LA0 1536, LA0 64]) false 6 2144 := by
    refine hp_run_sound hp_co V_mo_init C (fun _ _ _ _ _ _ _ hq => hq) [68] 10 _ _ _ _ _ _ _ ?_
    refine Exists.intro 64 (And.intro rfl (And.intro (by decide) (And.intro (by decide) (And.intro (by decide) (And.intro (by decide) (And.intro ak_l ?_))))))
    refine And.intro (Or.inr ⟨rfl, rfl, rfl⟩) (Exists.intro _ (And.intro rfl (And.intro (Nat.le_of_ble_eq_true rfl) (And.intro rfl (And.intro rfl ?_)))))
    exact t68
  have t52 : hp_W G 52 [(0, .ref 75), (1, .int x)] [] (esN c0 B ++ [.inr (3, [.int 0, .int 0, .ref 76, .ref 77, .ref 78, .ref 79, .int 0, .ref 80, .int 0, .int 1, .null, .null, .null, .null, .null, .int 0, .null, .null, .null, .int 0, .int 0, .int 0, .int 0]), NA0 16, NA0 16, NA0 256, NA0 256, LA0 1536]) false 5 2080 := by
    refine hp_run_sound hp_co V_mo_init C (fun _ _ _ _ _ _ _ hq => hq) [60] 10 _ _ _ _ _ _ _ ?_
    refine Exists.intro 64 (And.intro rfl (And.intro (by decide) (And.intro (by decide) (And.intro (by decide) (And.intro (by decide) (And.intro ak_l ?_))))))
    refine And.intro (Or.inr ⟨rfl, rfl, rfl⟩) (Exists.intro _ (And.intro rfl (And.intro (Nat.le_of_ble_eq_true rfl) (And.intro rfl (And.intro rfl ?_)))))
    exact t60
  have t47 : hp_W G 47 [(0, .ref 75), (1, .int x)] [] (esN c0 B ++ [.inr (3, [.int 0, .int 0, .ref 76, .ref 77, .ref 78, .ref 79, .int 0, .ref 80, .int 0, .int 0, .null, .null, .null, .null, .null, .int 0, .null, .null, .null, .int 0, .int 0, .int 0, .int 0]), NA0 16, NA0 16, NA0 256, NA0 256, LA0 1536]) false 5 2080 := by
    refine hp_run_sound hp_co V_mo_init C (fun _ _ _ _ _ _ _ hq => hq) [52] 10 _ _ _ _ _ _ _ ?_
    refine And.intro (Or.inl rfl) (Exists.intro _ (And.intro rfl (And.intro (Nat.le_of_ble_eq_true rfl) (And.intro rfl (And.intro rfl ?_)))))
    exact t52
  have t38 : hp_W G 38 [(0, .ref 75), (1, .int x)] [] (esN c0 B ++ [.inr (3, [.int 0, .int 0, .ref 76, .ref 77, .ref 78, .ref 79, .int 0, .null, .int 0, .int 0, .null, .null, .null, .null, .null, .int 0, .null, .null, .null, .int 0, .int 0, .int 0, .int 0]), NA0 16, NA0 16, NA0 256, NA0 256]) false 4 544 := by
    refine hp_run_sound hp_co V_mo_init C (fun _ _ _ _ _ _ _ hq => hq) [47] 10 _ _ _ _ _ _ _ ?_
    refine Exists.intro 1536 (And.intro rfl (And.intro (by decide) (And.intro (by decide) (And.intro (by decide) (And.intro (by decide) (And.intro ak_l ?_))))))
    refine And.intro (Or.inr ⟨rfl, rfl, rfl⟩) (Exists.intro _ (And.intro rfl (And.intro (Nat.le_of_ble_eq_true rfl) (And.intro rfl (And.intro rfl ?_)))))
    exact t47
  have t29 : hp_W G 29 [(0, .ref 75), (1, .int x)] [] (esN c0 B ++ [.inr (3, [.int 0, .int 0, .ref 76, .ref 77, .ref 78, .null, .int 0, .null, .int 0, .int 0, .null, .null, .null, .null, .null, .int 0, .null, .null, .null, .int 0, .int 0, .int 0, .int 0]), NA0 16, NA0 16, NA0 256]) false 3 288 := by
    refine hp_run_sound hp_co V_mo_init C (fun _ _ _ _ _ _ _ hq => hq) [38] 10 _ _ _ _ _ _ _ ?_
    refine Exists.intro 256 (And.intro rfl (And.intro (by decide) (And.intro (by decide) (And.intro (by decide) (And.intro (by decide) (And.intro ak_i ?_))))))
    refine And.intro (Or.inr ⟨rfl, rfl, rfl⟩) (Exists.intro _ (And.intro rfl (And.intro (Nat.le_of_ble_eq_true rfl) (And.intro rfl (And.intro rfl ?_)))))
    exact t38
  have t20 : hp_W G 20 [(0, .ref 75), (1, .int x)] [] (esN c0 B ++ [.inr (3, [.int 0, .int 0, .ref 76, .ref 77, .null, .null, .int 0, .null, .int 0, .int 0, .null, .null, .null, .null, .null, .int 0, .null, .null, .null, .int 0, .int 0, .int 0, .int 0]), NA0 16, NA0 16]) false 2 32 := by
    refine hp_run_sound hp_co V_mo_init C (fun _ _ _ _ _ _ _ hq => hq) [29] 10 _ _ _ _ _ _ _ ?_
    refine Exists.intro 256 (And.intro rfl (And.intro (by decide) (And.intro (by decide) (And.intro (by decide) (And.intro (by decide) (And.intro ak_i ?_))))))
    refine And.intro (Or.inr ⟨rfl, rfl, rfl⟩) (Exists.intro _ (And.intro rfl (And.intro (Nat.le_of_ble_eq_true rfl) (And.intro rfl (And.intro rfl ?_)))))
    exact t29
  have t12 : hp_W G 12 [(0, .ref 75), (1, .int x)] [] (esN c0 B ++ [.inr (3, [.int 0, .int 0, .ref 76, .null, .null, .null, .int 0, .null, .int 0, .int 0, .null, .null, .null, .null, .null, .int 0, .null, .null, .null, .int 0, .int 0, .int 0, .int 0]), NA0 16]) false 1 16 := by
    refine hp_run_sound hp_co V_mo_init C (fun _ _ _ _ _ _ _ hq => hq) [20] 10 _ _ _ _ _ _ _ ?_
    refine Exists.intro 16 (And.intro rfl (And.intro (by decide) (And.intro (by decide) (And.intro (by decide) (And.intro (by decide) (And.intro ak_i ?_))))))
    refine And.intro (Or.inr ⟨rfl, rfl, rfl⟩) (Exists.intro _ (And.intro rfl (And.intro (Nat.le_of_ble_eq_true rfl) (And.intro rfl (And.intro rfl ?_)))))
    exact t20
  refine hp_run_sound hp_co V_mo_init C (fun _ _ _ _ _ _ _ hq => hq) [12] 10 _ _ _ _ _ _ _ ?_
  refine Exists.intro 16 (And.intro rfl (And.intro (by decide) (And.intro (by decide) (And.intro (by decide) (And.intro (by decide) (And.intro ak_i ?_))))))
  refine And.intro (Or.inr ⟨rfl, rfl, rfl⟩) (Exists.intro _ (And.intro rfl (And.intro (Nat.le_of_ble_eq_true rfl) (And.intro rfl (And.intro rfl ?_)))))
  exact t12
theorem moS_new (c0 : hp_C) (B B' : Nat) (xs : hp_H) : moS (esN c0 B ++ moN B' ++ xs) (st0 B') 0 := by
  refine ⟨(0, 0, 0, 0, 0, 0), rfl, rfl, ⟨rfl, rfl, rfl, rfl, rfl⟩, ⟨_, rfl⟩, ⟨_, rfl⟩, ⟨_, rfl⟩, ⟨_, rfl⟩, ⟨_, rfl⟩, ⟨_, rfl⟩, ⟨fun _ => false, rfl⟩, ⟨fun _ => false, rfl⟩⟩
