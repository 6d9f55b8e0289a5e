/-! the reference: nets, netOf -/
theorem moC_jn {h H : hp_H} {s : St} {u : moT} {z : Nat → Int32} (hC : moC h s u) (a : jnS h H z) : moC H s u := by
  obtain ⟨x, a1⟩ := a
  obtain ⟨b1, b2, b3, b4, b5⟩ := hC.2.1
  obtain ⟨⟨f1, c1⟩, ⟨f2, c2⟩, ⟨f3, c3⟩, ⟨f4, c4⟩, ⟨f5, c5⟩, ⟨f6, c6⟩, ⟨f7, c7⟩, ⟨f8, c8⟩⟩ := hC.2.2
  exact ⟨hx_at x (by decide) hC.1, ⟨hx_at x (by decide) b1, hx_at x (by decide) b2, hx_at x (by decide) b3, hx_at x (by decide) b4, hx_at x (by decide) b5⟩, ⟨_, hx_at x (by decide) c1⟩, ⟨_, hx_at x (by decide) c2⟩, ⟨_, hx_at x (by decide) c3⟩, ⟨_, hx_at x (by decide) c4⟩, ⟨_, hx_at x (by decide) c5⟩, ⟨_, a1⟩, ⟨_, hx_at x (by decide) c7⟩, ⟨_, hx_at x (by decide) c8⟩⟩
theorem net_cn {f : Nat → Int64} {fi fj : Nat → Bool} (hF : isF f 0 fi) (hN : isF f 1 fj) {N : Nat → Nat} (h : ∀ b a, b < 4096 → a < 4096 → fi b = true → fj a = true → cnx (adj f 1) a b → N (cn fi b) = cn fi a) : cn (hdb N) (cn fi 4096) = cn fj 4096 := by
  refine (cn_comp 4096 (fun k hk => ?_)).symm
  refine bool_ext ?_
  rw [Bool.and_eq_true]
  unfold hdb
  rw [decide_eq_true_eq]
  constructor
  · intro c
    have := isF_01 hF hN hk c
    exact ⟨this, h k k hk hk this c (cnx_rf _ _)⟩
  · rintro ⟨c1, c2⟩
    obtain ⟨a, a1, a2, a3⟩ := isF_first hN k k rfl hk ((hF k hk).mp c1).1
    have h1 := h k a hk (by omega) c1 a2 a3
    rw [c2] at h1
    have := cn_inj c1 (isF_01 hF hN (by omega) a2) h1
    rw [this]
    exact a2
set_option maxRecDepth 20000 in
theorem m_nets_1 (l : Launch) (s : St) (x : Int32) (hx0 : x < 0 ∨ nI (s_B s + s_m s) ≤ x) : moM l Y_mo_nets [.int x] s 1 (.int 0) s := by
  rintro h cd ⟨u, rfl, hC⟩
  refine hp_start (T := T_mo_nets) (by decide) rfl (fun σ => Nat.le_of_ble_eq_true rfl) (fun G C => ?_)
  refine hp_run_sound hp_co V_mo_nets C (fun _ _ _ _ _ _ _ hq => hq) [10] 10 _ _ _ _ _ _ _ ?_
  refine And.intro ⟨3, _, hC.1, rfl⟩ ?_
  refine ic_P (c_mo_isReady_no l h s u x hx0 hC) (Nat.le_refl _) (Nat.le_refl _) ?_
  refine And.intro (fun q => absurd rfl q) (fun _ => ?_)
  exact And.intro rfl (And.intro rfl (And.intro rfl ⟨hxM_75 h _, _, rfl, moC_cd hC 1⟩))
set_option maxRecDepth 20000 in
theorem m_nets_0 (l : Launch) (s : St) (L : Nat) (hO : stOK s) (hL : L < s_B s + s_m s) (F : Nat → Int64) (hF : shw s L F) (fj : Nat → Bool) (hfj : isF F 1 fj) : moM l Y_mo_nets [.int (nI L)] s 0 (.int (nI (cn fj 4096))) s := by
  rintro h cd ⟨u, rfl, hC⟩
  obtain ⟨fi, hfi⟩ := isF_ex F 0
  have hb := cn_4096 fi
  have hb2 := cn_le fi 4096
  refine hp_start (T := T_mo_nets) (by decide) rfl (fun σ => Nat.le_of_ble_eq_true rfl) (fun G C => ?_)
  refine hp_run_sound hp_co V_mo_nets C (fun _ _ _ _ _ _ _ hq => hq) [18] 14 _ _ _ _ _ _ _ ?_
  refine And.intro ⟨3, _, hC.1, rfl⟩ ?_
  refine ic_Q (c_mo_isReady l h s u L hO hL F hF fi hfi hC) (Nat.le_refl _) (Nat.le_refl _) (fun r h2 hq => ?_)
  obtain ⟨rfl, hx2, f, g, hR⟩ := hq
  have hr := rw_of hR.2.2.1 hF
  refine And.intro (fun _ => ?_) (fun q => absurd q (by decide))
  refine And.intro ⟨3, _, hR.1.1, rfl⟩ ?_
  refine ic_Q (c_mo_join l h2 s (0, u.2) f g fi fj (isF_eq hr hfi) (isF_eq hr hfj) hR.1 hR.2.1 hR.2.2.2.1 hR.2.2.2.2) (Nat.le_refl _) (Nat.le_refl _) (fun r h3 hq => ?_)
  obtain ⟨rfl, N, w, hJ, hlt, hN⟩ := hq
  have hC3 := moC_jn hR.1 hJ
  have hx3 := hxM_hx hx2 hJ.1 (by decide)
  have key : ∀ (m i : Nat), i + m = cn fi 4096 → hp_W G 18 [(0, .ref 75), (1, .int (nI L)), (2, .int (nI (cn (hdb N) i))), (3, .int (nI i))] [] h3 false 0 0 := by
    intro m
    induction m with
    | zero =>
      intro i hi
      have e : i = cn fi 4096 := by omega
      subst e
      refine hp_run_sound hp_co V_mo_nets C (fun _ _ _ _ _ _ _ hq => hq) [18] 8 _ _ _ _ _ _ _ ?_
      refine Exists.intro _ (And.intro hC3.1 ?_)
      refine And.intro (fun c => ?_) (fun c => absurd (nI_le (Nat.le_refl (cn fi 4096)) hb) c)
      rw [net_cn (isF_eq hr hfi) (isF_eq hr hfj) hN]
      exact And.intro rfl (And.intro rfl (And.intro rfl ⟨hx3, _, rfl, hC3⟩))
    | succ m ih =>
      intro i hi
      have hW := ih (i + 1) (by omega)
      have hi2 := hlt i (by omega)
      refine hp_run_sound hp_co V_mo_nets C (fun _ _ _ _ _ _ _ hq => hq) [18] 20 _ _ _ _ _ _ _ ?_
      refine Exists.intro _ (And.intro hC3.1 ?_)
      refine And.intro (fun c => absurd c (nI_ge (show i < cn fi 4096 by omega) hb)) (fun c => ?_)
      refine Exists.intro _ (And.intro hC3.1 ?_)
      refine Exists.intro .int (Exists.intro 4096 (Exists.intro _ (And.intro (Or.inl rfl) (And.intro hJ.2 (And.intro (in_nI (by omega) (by decide)) ?_)))))
      rw [nI_clamp (show i < 2 ^ 31 by omega), zf_at _ _ (show i < cn fi 4096 by omega)]
      refine And.intro (fun c => ?_) (fun c => ?_)
      · have e : ¬ N i = i := fun q => c (by rw [q])
        have hz : nI (cn (hdb N) (i + 1)) = nI (cn (hdb N) i) + 0 := by rw [cn_s]; unfold hdb; rw [decide_eq_false e, pl_0]; rfl
        rw [hz, ← nI_1 i] at hW
        exact hW
      · have e : N i = i := (nI_eq (by omega) (by omega)).mp c
        have hz : nI (cn (hdb N) (i + 1)) = nI (cn (hdb N) i) + 1 := by rw [cn_s]; unfold hdb; rw [decide_eq_true e]; exact (nI_1 _).symm
        rw [hz, ← nI_1 i] at hW
        exact hW
  exact key (cn fi 4096) 0 (by omega)
theorem m_netOf_20 (l : Launch) (s : St) (u : moT) {h h1 : hp_H} (hC : moC h1 s u) (hx1 : hxM h h1) (a b : Int32) {G : hp_G} (C : hp_ctx T_mo_netOf Y_mo_netOf l false 0 0 (fun r h' => r = .inl (some (.int 0)) ∧ hxM h h' ∧ moS h' s (nI 1)) G) : hp_W G 20 [(0, .ref 75), (1, .int a), (2, .int b)] [] h1 false 0 0 := by
  refine hp_run_sound hp_co V_mo_netOf C (fun _ _ _ _ _ _ _ hq => hq) [] 8 _ _ _ _ _ _ _ ?_
  refine And.intro (Or.inl rfl) (Exists.intro _ (And.intro hC.1 (And.intro (Nat.le_of_ble_eq_true rfl) (And.intro rfl (And.intro rfl ?_)))))
  exact And.intro rfl (And.intro rfl (And.intro rfl ⟨hxM_set hx1 _ (by omega), _, rfl, moC_cd hC 1⟩))
set_option maxRecDepth 20000 in
theorem m_netOf_1 (l : Launch) (s : St) (x t : Int32) (hx0 : x < 0 ∨ nI (s_B s + s_m s) ≤ x) : moM l Y_mo_netOf [.int x, .int t] s 1 (.int 0) s := by
  rintro h cd ⟨u, rfl, hC⟩
  refine hp_start (T := T_mo_netOf) (by decide) rfl (fun σ => Nat.le_of_ble_eq_true rfl) (fun G C => ?_)
  refine hp_run_sound hp_co V_mo_netOf C (fun _ _ _ _ _ _ _ hq => hq) [20] 6 _ _ _ _ _ _ _ ?_
  refine And.intro ⟨3, _, hC.1, rfl⟩ ?_
  refine ic_P (c_mo_isReady_no l h s u x hx0 hC) (Nat.le_refl _) (Nat.le_refl _) ?_
  refine And.intro (fun _ => ?_) (fun q => absurd rfl q)
  exact m_netOf_20 l s _ (moC_cd hC 1) (hxM_75 h _) x t C
set_option maxRecDepth 20000 in
theorem m_netOf_1t (l : Launch) (s : St) (L : Nat) (t : Int32) (hO : stOK s) (hL : L < s_B s + s_m s) (F : Nat → Int64) (hF : shw s L F) (fi : Nat → Bool) (hfi : isF F 0 fi) (ht : t < 0 ∨ nI (cn fi 4096) ≤ t) : moM l Y_mo_netOf [.int (nI L), .int t] s 1 (.int 0) s := by
  rintro h cd ⟨u, rfl, hC⟩
  refine hp_start (T := T_mo_netOf) (by decide) rfl (fun σ => Nat.le_of_ble_eq_true rfl) (fun G C => ?_)
  refine hp_run_sound hp_co V_mo_netOf C (fun _ _ _ _ _ _ _ hq => hq) [20, 27] 12 _ _ _ _ _ _ _ ?_
  refine And.intro ⟨3, _, hC.1, rfl⟩ ?_
  refine ic_Q (c_mo_isReady l h s u L hO hL F hF fi hfi hC) (Nat.le_refl _) (Nat.le_refl _) (fun r h2 hq => ?_)
  obtain ⟨rfl, hx2, f, g, hR⟩ := hq
  have t20 := m_netOf_20 l s _ hR.1 hx2 (nI L) t C
  refine And.intro (fun q => absurd q (by decide)) (fun _ => And.intro (fun _ => t20) (fun q1 => ?_))
  refine Exists.intro _ (And.intro hR.1.1 ?_)
  refine And.intro (fun q2 => ?_) (fun _ => t20)
  exfalso
  rcases ht with e | e
  · exact q1 e
  · exact absurd q2 (Int32.not_lt.mpr e)
set_option maxRecDepth 20000 in
theorem m_netOf_0 (l : Launch) (s : St) (L k a : Nat) (hO : stOK s) (hL : L < s_B s + s_m s) (F : Nat → Int64) (hF : shw s L F) (fi fj : Nat → Bool) (hfi : isF F 0 fi) (hfj : isF F 1 fj) (hk : k < 4096) (ha : a < 4096) (k1 : fi k = true) (a1 : fj a = true) (hc : cnx (adj F 1) a k) :
    moM l Y_mo_netOf [.int (nI L), .int (nI (cn fi k))] s 0 (.int (nI (cn fi a))) s := by
  rintro h cd ⟨u, rfl, hC⟩
  have hb := cn_4096 fi
  have hb2 := cn_le fi 4096
  have hkn : cn fi k < cn fi 4096 := cn_in hk k1
  refine hp_start (T := T_mo_netOf) (by decide) rfl (fun σ => Nat.le_of_ble_eq_true rfl) (fun G C => ?_)
  refine hp_run_sound hp_co V_mo_netOf C (fun _ _ _ _ _ _ _ hq => hq) [20] 20 _ _ _ _ _ _ _ ?_
  refine And.intro ⟨3, _, hC.1, rfl⟩ ?_
  refine ic_Q (c_mo_isReady l h s u L hO hL F hF fi hfi hC) (Nat.le_refl _) (Nat.le_refl _) (fun r h2 hq => ?_)
  obtain ⟨rfl, hx2, f, g, hR⟩ := hq
  have hr := rw_of hR.2.2.1 hF
  refine And.intro (fun q => absurd q (by decide)) (fun _ => And.intro (fun q => absurd q (nI_pos (by omega))) (fun _ => ?_))
  refine Exists.intro _ (And.intro hR.1.1 ?_)
  refine And.intro (fun _ => ?_) (fun q => absurd (nI_lt hkn hb) q)
  refine And.intro ⟨3, _, hR.1.1, rfl⟩ ?_
  refine ic_Q (c_mo_join l h2 s (0, u.2) f g fi fj (isF_eq hr hfi) (isF_eq hr hfj) hR.1 hR.2.1 hR.2.2.2.1 hR.2.2.2.2) (Nat.le_refl _) (Nat.le_refl _) (fun r h3 hq => ?_)
  obtain ⟨rfl, N, w, hJ, hlt, hN⟩ := hq
  have hC3 := moC_jn hR.1 hJ
  refine Exists.intro _ (And.intro hC3.1 ?_)
  refine Exists.intro .int (Exists.intro 4096 (Exists.intro _ (And.intro (Or.inl rfl) (And.intro hJ.2 (And.intro (in_nI (by omega) (by decide)) ?_)))))
  rw [nI_clamp (show cn fi k < 2 ^ 31 by omega), zf_at _ _ hkn, hN k a hk ha k1 a1 ((con_eq hr).mpr hc)]
  exact And.intro rfl (And.intro rfl (And.intro rfl ⟨hxM_hx hx2 hJ.1 (by decide), _, rfl, hC3⟩))
