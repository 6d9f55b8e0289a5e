/-! the reference: polygon, corner, clear, strips -/
theorem moA_75 {h : hp_H} {s : St} (hA : moA h s) (c : hp_C) : moA (h.set 75 c) s := by
  obtain ⟨a1, a2, a3, a4, a5⟩ := hA
  exact ⟨by rw [hq_ne (by decide)]; exact a1, by rw [hq_ne (by decide)]; exact a2, by rw [hq_ne (by decide)]; exact a3, by rw [hq_ne (by decide)]; exact a4, by rw [hq_ne (by decide)]; exact a5⟩
theorem mwS_hx {ps : List Nat} {h h' : hp_H} (hW : mwS h) (x : hx ps h h') (hp : ∀ q ∈ ps, q < 81 ∨ 89 ≤ q) : mwS h' := by
  obtain ⟨⟨f1, a1⟩, ⟨f2, a2⟩, ⟨f3, a3⟩, ⟨f4, a4⟩, ⟨f5, a5⟩, ⟨f6, a6⟩, ⟨f7, a7⟩, ⟨f8, a8⟩⟩ := hW
  have m : ∀ q, 81 ≤ q → q < 89 → q ∉ ps := fun q q1 q2 e => by have := hp q e; omega
  exact ⟨⟨_, hx_at x (m _ (by omega) (by omega)) a1⟩, ⟨_, hx_at x (m _ (by omega) (by omega)) a2⟩, ⟨_, hx_at x (m _ (by omega) (by omega)) a3⟩, ⟨_, hx_at x (m _ (by omega) (by omega)) a4⟩, ⟨_, hx_at x (m _ (by omega) (by omega)) a5⟩, ⟨_, hx_at x (m _ (by omega) (by omega)) a6⟩, ⟨_, hx_at x (m _ (by omega) (by omega)) a7⟩, ⟨_, hx_at x (m _ (by omega) (by omega)) a8⟩⟩
theorem moC_set {h : hp_H} {s : St} {u : moT} (hC : moC h s u) (s' : St) (v : moT) (hA : moA h s') : moC (h.set 75 (mo75 s' v)) s' v :=
  ⟨hq_get hC.1, moA_75 hA _, mwS_hx hC.2.2 (hx_set (hx_rf [75] h) _ (by decide)) (by decide)⟩
theorem moC_cd {h : hp_H} {s : St} {u : moT} (hC : moC h s u) (cd : Int32) : moC (h.set 75 (mo75 s (cd, u.2))) s (cd, u.2) := moC_set hC s _ hC.2.1
theorem hxM_75 (h : hp_H) (c : hp_C) : hxM h (h.set 75 c) := hxM_of (ps := [75]) (hx_set (hx_rf _ _) _ (by decide)) (by decide)
set_option maxRecDepth 20000 in
theorem m_polygon_1 (l : Launch) (s : St) (x : Int32) (hx0 : x < 0 ∨ nI (s_B s) ≤ x) : moM l Y_mo_polygon [.int x] s 1 (.int 0) s := by
  rintro h cd ⟨u, rfl, hC⟩
  refine hp_start (T := T_mo_polygon) (by decide) rfl (fun σ => Nat.le_of_ble_eq_true rfl) (fun G C => ?_)
  have t31 : hp_W G 31 [(0, .ref 75), (1, .int x)] [.int 1, .ref 75] h true 0 0 := by
    refine hp_run_sound hp_co V_mo_polygon C (fun _ _ _ _ _ _ _ hq => hq) [] 20 _ _ _ _ _ _ _ ?_
    refine And.intro (Or.inl rfl) (Exists.intro _ (And.intro hC.1 (And.intro (Nat.le_of_ble_eq_true rfl) (And.intro rfl (And.intro rfl ?_)))))
    refine Exists.intro _ (And.intro (hq_get hC.1) ?_)
    refine And.intro (fun q => absurd q (by decide)) (fun q => ?_)
    exact And.intro rfl (And.intro rfl (And.intro rfl ⟨hxM_75 h _, _, rfl, moC_cd hC 1⟩))
  refine hp_run_sound hp_co V_mo_polygon C (fun _ _ _ _ _ _ _ hq => hq) [31] 10 _ _ _ _ _ _ _ ?_
  refine And.intro (fun q => t31) (fun q => ?_)
  refine Exists.intro _ (And.intro hC.1 ?_)
  refine And.intro (fun q2 => ?_) (fun q2 => t31)
  rcases hx0 with e | e
  · exact absurd e q
  · exact absurd q2 (Int32.not_lt.mpr e)
set_option maxRecDepth 20000 in
theorem m_polygon_2 (l : Launch) (s : St) (x : Int32) (h1 : ¬ x < 0) (h2 : ¬ nI (s_B s) ≤ x) (hc : s_c s = 16) : moM l Y_mo_polygon [.int x] s 2 (.int 0) s := by
  rintro h cd ⟨u, rfl, hC⟩
  refine hp_start (T := T_mo_polygon) (by decide) rfl (fun σ => Nat.le_of_ble_eq_true rfl) (fun G C => ?_)
  refine hp_run_sound hp_co V_mo_polygon C (fun _ _ _ _ _ _ _ hq => hq) [] 40 _ _ _ _ _ _ _ ?_
  refine And.intro (fun q => absurd q h1) (fun q => ?_)
  refine Exists.intro _ (And.intro hC.1 ?_)
  refine And.intro (fun q2 => ?_) (fun q2 => absurd (Int32.not_le.mp h2) q2)
  refine Exists.intro _ (And.intro hC.1 ?_)
  refine And.intro (fun q3 => absurd (congrArg nI hc) q3) (fun q3 => ?_)
  refine And.intro (Or.inl rfl) (Exists.intro _ (And.intro hC.1 (And.intro (Nat.le_of_ble_eq_true rfl) (And.intro rfl (And.intro rfl ?_)))))
  refine Exists.intro _ (And.intro (hq_get hC.1) ?_)
  refine And.intro (fun q => absurd q (by decide)) (fun q => ?_)
  exact And.intro rfl (And.intro rfl (And.intro rfl ⟨hxM_75 h _, _, rfl, moC_cd hC 2⟩))
theorem moC_arr {h : hp_H} {s s' : St} {u : moT} (hC : moC h s u) {a : Nat} (c : hp_C) (ha : 76 ≤ a ∧ a < 81) (h75 : mo75 s' u = mo75 s u) (hA : moA (h.set a c) s') : moC (h.set a c) s' u :=
  ⟨by rw [hq_ne (by omega), h75]; exact hC.1, hA, mwS_hx hC.2.2 (hx_set (hx_rf [a] h) _ (by simp)) (fun q hq => by simp at hq; omega)⟩
theorem moC_76 {h : hp_H} {s : St} {u : moT} (hC : moC h s u) (lay : Nat → Nat) : moC (h.set 76 (NA 16 lay)) (St' (s_B s) (s_m s) (s_n s) (s_c s) lay (s_k s) (s_X s) (s_Y s) (s_D s)) u := by
  obtain ⟨a1, a2, a3, a4, a5⟩ := hC.2.1
  exact moC_arr hC _ (by omega) rfl ⟨hq_get a1, by rw [hq_ne (by decide)]; exact a2, by rw [hq_ne (by decide)]; exact a3, by rw [hq_ne (by decide)]; exact a4, by rw [hq_ne (by decide)]; exact a5⟩
theorem moC_77 {h : hp_H} {s : St} {u : moT} (hC : moC h s u) (k : Nat → Nat) : moC (h.set 77 (NA 16 k)) (St' (s_B s) (s_m s) (s_n s) (s_c s) (s_lay s) k (s_X s) (s_Y s) (s_D s)) u := by
  obtain ⟨a1, a2, a3, a4, a5⟩ := hC.2.1
  exact moC_arr hC _ (by omega) rfl ⟨by rw [hq_ne (by decide)]; exact a1, hq_get a2, by rw [hq_ne (by decide)]; exact a3, by rw [hq_ne (by decide)]; exact a4, by rw [hq_ne (by decide)]; exact a5⟩
theorem moC_78 {h : hp_H} {s : St} {u : moT} (hC : moC h s u) (X : Nat → Nat → Nat) : moC (h.set 78 (CA X)) (St' (s_B s) (s_m s) (s_n s) (s_c s) (s_lay s) (s_k s) X (s_Y s) (s_D s)) u := by
  obtain ⟨a1, a2, a3, a4, a5⟩ := hC.2.1
  exact moC_arr hC _ (by omega) rfl ⟨by rw [hq_ne (by decide)]; exact a1, by rw [hq_ne (by decide)]; exact a2, hq_get a3, by rw [hq_ne (by decide)]; exact a4, by rw [hq_ne (by decide)]; exact a5⟩
theorem moC_79 {h : hp_H} {s : St} {u : moT} (hC : moC h s u) (Y : Nat → Nat → Nat) : moC (h.set 79 (CA Y)) (St' (s_B s) (s_m s) (s_n s) (s_c s) (s_lay s) (s_k s) (s_X s) Y (s_D s)) u := by
  obtain ⟨a1, a2, a3, a4, a5⟩ := hC.2.1
  exact moC_arr hC _ (by omega) rfl ⟨by rw [hq_ne (by decide)]; exact a1, by rw [hq_ne (by decide)]; exact a2, by rw [hq_ne (by decide)]; exact a3, hq_get a4, by rw [hq_ne (by decide)]; exact a5⟩
theorem moC_80 {h : hp_H} {s : St} {u : moT} (hC : moC h s u) (D : Nat → Nat → Int64) : moC (h.set 80 (DA D)) (St' (s_B s) (s_m s) (s_n s) (s_c s) (s_lay s) (s_k s) (s_X s) (s_Y s) D) u := by
  obtain ⟨a1, a2, a3, a4, a5⟩ := hC.2.1
  exact moC_arr hC _ (by omega) rfl ⟨by rw [hq_ne (by decide)]; exact a1, by rw [hq_ne (by decide)]; exact a2, by rw [hq_ne (by decide)]; exact a3, by rw [hq_ne (by decide)]; exact a4, hq_get a5⟩
theorem hxM_set {h h' : hp_H} (x : hxM h h') {a : Nat} (c : hp_C) (ha : 75 ≤ a ∧ a < 89) : hxM h (h'.set a c) := hxM_tr x (hxM_of (ps := [a]) (hx_set (hx_rf _ _) _ (by simp)) (fun q hq => by simp at hq; omega))
set_option maxRecDepth 20000 in
theorem m_polygon_0 (l : Launch) (s : St) (L : Nat) (hB : s_B s ≤ 65536) (hL : L < s_B s) (hc : s_c s < 16) : moM l Y_mo_polygon [.int (nI L)] s 0 (.int (nI (s_c s))) (St' (s_B s) (s_m s) (s_n s) (s_c s + 1) (updN (s_lay s) (s_c s) L) (updN (s_k s) (s_c s) 0) (s_X s) (s_Y s) (s_D s)) := by
  rintro h cd ⟨u, rfl, hC⟩
  refine hp_start (T := T_mo_polygon) (by decide) rfl (fun σ => Nat.le_of_ble_eq_true rfl) (fun G C => ?_)
  have t43 : ∀ h1, moC h1 s (0, u.2) → hxM h h1 → hp_W G 43 [(0, .ref 75), (1, .int (nI L))] [] h1 false 0 0 := by
    intro h1 hC1 hx1
    have hC2 := moC_76 hC1 (updN (s_lay s) (s_c s) L)
    have hC3 := moC_77 hC2 (updN (s_k s) (s_c s) 0)
    refine hp_run_sound hp_co V_mo_polygon C (fun _ _ _ _ _ _ _ hq => hq) [] 60 _ _ _ _ _ _ _ ?_
    refine Exists.intro _ (And.intro hC1.1 ?_)
    refine Exists.intro _ (And.intro hC1.1 ?_)
    refine Exists.intro 16 (Exists.intro _ (And.intro hC1.2.1.1 (And.intro (in_nI hc (by decide)) ?_)))
    rw [nI_clamp (show s_c s < 2 ^ 31 by omega), upd_nI]
    refine Exists.intro _ (And.intro hC2.1 ?_)
    refine Exists.intro _ (And.intro hC2.1 ?_)
    refine Exists.intro 16 (Exists.intro _ (And.intro hC2.2.1.2.1 (And.intro (in_nI hc (by decide)) ?_)))
    rw [nI_clamp (show s_c s < 2 ^ 31 by omega), show hp_c 0 = nI 0 from rfl, upd_nI]
    refine Exists.intro _ (And.intro hC3.1 ?_)
    refine And.intro (Or.inl rfl) (Exists.intro _ (And.intro hC3.1 (And.intro (Nat.le_of_ble_eq_true rfl) (And.intro rfl (And.intro rfl ?_)))))
    have hC4 := moC_set hC3 (St' (s_B s) (s_m s) (s_n s) (s_c s + 1) (updN (s_lay s) (s_c s) L) (updN (s_k s) (s_c s) 0) (s_X s) (s_Y s) (s_D s)) (0, u.2) hC3.2.1
    have e : nI (s_c s) + hp_c 1 = nI (s_c s + 1) := nI_1 _
    refine Exists.intro _ (And.intro (by rw [hq_get hC3.1]) ?_)
    refine And.intro rfl (And.intro rfl ⟨?_, ?_, (0, u.2), rfl, ?_⟩)
    · show (Sum.inl (some (Value.int (nI (s_c s) + 1 - 1))) : hp_R) = _
      rw [nI_1, show nI (s_c s + 1) - 1 = nI (s_c s) from pk_sub (b := 1) (Nat.le_add_left _ _)]
    · exact hxM_set (hxM_set (hxM_set hx1 _ (by omega)) _ (by omega)) _ (by omega)
    · have := hC4
      unfold mo75 MO at this
      rw [show nI (s_c (St' (s_B s) (s_m s) (s_n s) (s_c s + 1) (updN (s_lay s) (s_c s) L) (updN (s_k s) (s_c s) 0) (s_X s) (s_Y s) (s_D s))) = nI (s_c s) + hp_c 1 from e.symm] at this
      exact this
  refine hp_run_sound hp_co V_mo_polygon C (fun _ _ _ _ _ _ _ hq => hq) [43] 60 _ _ _ _ _ _ _ ?_
  refine And.intro (fun q => absurd q (nI_pos (by omega))) (fun q => ?_)
  refine Exists.intro _ (And.intro hC.1 ?_)
  refine And.intro (fun q2 => ?_) (fun q2 => absurd (nI_lt hL (by omega)) q2)
  refine Exists.intro _ (And.intro hC.1 ?_)
  refine And.intro (fun q3 => ?_) (fun q3 => absurd ((nI_eq (b := 16) (by omega) (by decide)).mp q3) (by omega))
  refine And.intro (Or.inl rfl) (Exists.intro _ (And.intro hC.1 (And.intro (Nat.le_of_ble_eq_true rfl) (And.intro rfl (And.intro rfl ?_)))))
  refine Exists.intro _ (And.intro (hq_get hC.1) ?_)
  refine And.intro (fun q => ?_) (fun q => absurd (show (0 : Int32) ≤ 0 by decide) q)
  exact t43 _ (moC_cd hC 0) (hxM_75 h _)
