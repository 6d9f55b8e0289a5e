/-! the law: its calls one behind the other -/
set_option maxRecDepth 40000 in
theorem lc_clear (l : Launch) (L i : Nat) (xs : Nat → Int32) {h : hp_H} {s : St} (hS : lwS L xs h s) {k n : Nat} (hk : k + 1 ≤ 601024) (hn : n + 6 ≤ 7293000) {Q : hp_R → hp_H → Prop} {G : hp_G} (C : hp_ctx T_lw_clear Y_la_law l false 601024 7293000 Q G)
    (nx : ∀ h' s', lwS L xs h' s' → hp_W G 1335 [(0, .ref 0), (1, .ref 1), (2, .ref 75), (3, .ref 89), (4, .int (nI i))] [] h' false k n) : hp_W G 1324 [(0, .ref 0), (1, .ref 1), (2, .ref 75), (3, .ref 89), (4, .int (nI i))] [] h false k n := by
  obtain ⟨hO, h0, he, ⟨cd, hm⟩, ⟨ou, h89⟩⟩ := hS
  obtain ⟨o1, o2, o3, o4, o5, o6, o7⟩ := hO
  refine hp_run_sound hp_co V_lw_clear C (fun _ _ _ _ _ _ _ hq => hq) [1335] 8 _ _ _ _ _ _ _ ?_
  refine And.intro ⟨0, _, he.1, rfl⟩ ?_
  refine ic_Q (k_clear l h s he) (by omega) (by omega) (fun r h1 hq => ?_)
  obtain ⟨rfl, hx1, he1⟩ := hq
  have hm1 := moS_hxW hm (hxW_C hx1)
  obtain ⟨u1, hu1, hC1⟩ := id hm1
  refine And.intro ⟨3, _, hC1.1, rfl⟩ ?_
  refine ic_Q (m_clear l h1 s cd hm1) (by omega) (by omega) (fun r h2 hq => ?_)
  obtain ⟨rfl, hx2, hm2⟩ := hq
  exact nx h2 (St' (s_B s) 0 (s_n s) 0 (s_lay s) (s_k s) (s_X s) (s_Y s) (s_D s)) ⟨⟨o1, o2, Nat.zero_le _, o4, o5, Nat.zero_le _, o7⟩, (hx2.2 0 (Or.inl (by decide))).trans ((hx1.2 0 (Or.inl rfl)).trans h0), esS_hxM he1 hx2, ⟨_, hm2⟩, ⟨_, (hx2.2 89 (Or.inr (Nat.le_refl _))).trans ((hx1.2 89 (Or.inr (by decide))).trans h89)⟩⟩
theorem and15 (x : Int32) : ∃ j : Nat, j < 16 ∧ x &&& hp_c 15 = nI j := pk_andE x (m := hp_c 15) 4 rfl
set_option maxRecDepth 40000 in
theorem lw_loop (l : Launch) (L : Nat) (xs : Nat → Int32) (hL : L ≤ 3073) {Q : hp_R → hp_H → Prop} {G : hp_G} (C : hp_ctx T_lw_start Y_la_law l false 601024 7293000 Q G) (hQ : ∀ h, Q (.inl (some (.int 1))) h) :
    ∀ (m j : Nat) (h : hp_H) (s : St), j + m = 512 → lwS L xs h s → hp_W G 33 [(0, .ref 0), (1, .ref 1), (2, .ref 75), (3, .ref 89), (4, .int (nI (1 + 6 * j)))] [] h false (89 + j) (35497 + 6 * j) := by
  intro m
  have hlen : (Int32.ofNat L - hp_c 6).toInt = (L : Int) - 6 := pk_sub_toInt (a := L) (b := 6) (by omega) (by decide)
  have fin : ∀ h lv k n, k ≤ 601024 → n ≤ 7293000 → hp_W G 1341 lv [] h false k n := fun h lv k n hk hn => by
    refine hp_run_sound hp_co V_lw_end C (fun _ _ _ _ _ _ _ hq => hq) [] 4 _ _ _ _ _ _ _ ?_
    exact And.intro rfl (And.intro rfl (hQ h))
  induction m with
  | zero =>
    intro j h s hj hS
    refine hp_run_sound hp_co V_lw_start C (fun _ _ _ _ _ _ _ hq => hq) [43, 1341] 8 _ _ _ _ _ _ _ ?_
    refine Exists.intro .float (Exists.intro L (Exists.intro _ (And.intro hS.2.1 ?_)))
    refine And.intro (fun _ => fin h _ _ _ (by omega) (by omega)) (fun q => ?_)
    exfalso
    have := Int32.le_iff_toInt_le.mp (Int32.not_lt.mp q)
    rw [hlen, nI_toInt (by omega)] at this
    omega
  | succ m ih =>
    intro j h s hj hS
    have nx : ∀ h' s' k n, k ≤ 90 + j → n ≤ 35503 + 6 * j → lwS L xs h' s' → hp_W G 1335 [(0, .ref 0), (1, .ref 1), (2, .ref 75), (3, .ref 89), (4, .int (nI (1 + 6 * j)))] [] h' false k n := by
      intro h' s' k n hk hn hS'
      have hW := ih (j + 1) h' s' (by omega) hS'
      rw [show 1 + 6 * (j + 1) = 1 + 6 * j + 6 by omega, ← nI_add (1 + 6 * j) 6] at hW
      refine hp_W_widen (89 + (j + 1)) (35497 + 6 * (j + 1)) (by omega) (by omega) (by rw [C.2.2.2.1]; show 89 + (j + 1) ≤ 601024; omega) (by rw [C.2.2.2.1]; show 35497 + 6 * (j + 1) ≤ 7293000; omega) ?_
      refine hp_run_sound hp_co V_lw_end C (fun _ _ _ _ _ _ _ hq => hq) [33] 4 _ _ _ _ _ _ _ ?_
      exact hW
    have t43 : ¬ Int32.ofNat L - hp_c 6 < nI (1 + 6 * j) → hp_W G 43 [(0, .ref 0), (1, .ref 1), (2, .ref 75), (3, .ref 89), (4, .int (nI (1 + 6 * j)))] [] h false (89 + j) (35497 + 6 * j) := by
      intro q
      have hle : 1 + 6 * j + 6 ≤ L := by
        have := Int32.le_iff_toInt_le.mp (Int32.not_lt.mp q)
        rw [hlen, nI_toInt (by omega)] at this
        omega
      refine hp_run_sound hp_co V_lw_start C (fun _ _ _ _ _ _ _ hq => hq) [124, 180, 331, 411, 539, 595, 686, 837, 904, 984, 1040, 1108, 1164, 1244, 1324, 1335] 8 _ _ _ _ _ _ _ ?_
      refine Exists.intro .float (Exists.intro L (Exists.intro xs (And.intro (Or.inr rfl) (And.intro hS.2.1 (And.intro (in_nI (by omega) (by omega)) ?_)))))
      have nx2 : ∀ h' s', lwS L xs h' s' → hp_W G 1335 [(0, .ref 0), (1, .ref 1), (2, .ref 75), (3, .ref 89), (4, .int (nI (1 + 6 * j)))] [] h' false (89 + j + 1) (35497 + 6 * j + 6) := fun h' s' hS' => nx h' s' _ _ (by omega) (by omega) hS'
      have b1 : 89 + j + 1 ≤ 601024 := by omega
      have b2 : 35497 + 6 * j + 6 ≤ 7293000 := by omega
      refine And.intro (fun _ => nx h s _ _ (by omega) (by omega) hS) ?_
      refine And.intro (fun _ => lc_polygon l L _ xs hle hL hS b1 b2 C nx2) ?_
      refine And.intro (fun _ => lc_corner l L _ xs hle hL hS b1 b2 C nx2) ?_
      refine And.intro (fun _ => lc_op l L _ xs hle hL hS b1 b2 C nx2) ?_
      refine And.intro (fun _ => lc_size l L _ xs hle hL hS b1 b2 C nx2) ?_
      refine And.intro (fun _ => lc_shapes l L _ xs hle hL hS b1 b2 C nx2) ?_
      refine And.intro (fun _ => lc_at l L _ xs hle hL hS b1 b2 C nx2) ?_
      refine And.intro (fun _ => lc_in l L _ xs hle hL hS b1 b2 C nx2) ?_
      refine And.intro (fun _ => lc_area2 l L _ xs hle hL hS b1 b2 C nx2) ?_
      refine And.intro (fun _ => lc_touching l L _ xs hle hL hS b1 b2 C nx2) ?_
      refine And.intro (fun _ => lc_nets l L _ xs hle hL hS b1 b2 C nx2) ?_
      refine And.intro (fun _ => lc_netOf l L _ xs hle hL hS b1 b2 C nx2) ?_
      refine And.intro (fun _ => lc_strips l L _ xs hle hL hS b1 b2 C nx2) ?_
      refine And.intro (fun _ => lc_edge l L _ xs hle hL hS b1 b2 C nx2) ?_
      refine And.intro (fun _ => lc_trapezoid l L _ xs hle hL hS b1 b2 C nx2) ?_
      exact And.intro (fun _ => lc_clear l L _ xs hS b1 b2 C (fun h' s' hS' => nx h' s' _ _ (by omega) (by omega) hS')) trivial
    refine hp_run_sound hp_co V_lw_start C (fun _ _ _ _ _ _ _ hq => hq) [43, 1341] 8 _ _ _ _ _ _ _ ?_
    refine Exists.intro .float (Exists.intro L (Exists.intro _ (And.intro hS.2.1 ?_)))
    exact And.intro (fun _ => fin h _ _ _ (by omega) (by omega)) (fun q => t43 q)
set_option maxRecDepth 40000 in
theorem lw_body (l : Launch) (L : Nat) (xs : Nat → Int32) (hL : L ≤ 3073) {Q : hp_R → hp_H → Prop} {G : hp_G} (C : hp_ctx T_lw_start Y_la_law l false 601024 7293000 Q G) (hQ : ∀ h, Q (.inl (some (.int 1))) h) : hp_W G 0 [(0, .ref 0)] [] [.inl (.float, L, .inl xs)] true 0 0 := by
  generalize hv : (if L = 0 then 0 else xs 0) = v
  have cl : ∀ h, h[0]? = some (.inl (.float, L, .inl xs)) → hp_M l Y_la_cell [.ref 0, .int 0] h true 0 0 (hq_P (.inl (some (.int v))) h) := fun h h0 => by rw [← hv]; exact c_la_cell l h L xs (by omega) h0
  have t33 : hp_W G 33 [(0, .ref 0), (1, .ref 1), (2, .ref 75), (3, .ref 89), (4, .int (nI 1))] [] (esN (.inl (.float, L, .inl xs)) (bas v) ++ moN (bas v) ++ [LA0 1]) false 89 35497 := by
    refine lw_loop l L xs hL C hQ 512 0 _ (st0 (bas v)) (by omega) ⟨st0_ok v, rfl, ?_, ⟨0, moS_new _ _ _ _⟩, ⟨_, rfl⟩⟩
    have := esS_new (.inl (.float, L, .inl xs)) (bas v) (moN (bas v) ++ [LA0 1])
    rw [← List.append_assoc] at this
    exact this
  have t25 : hp_W G 25 [(0, .ref 0), (1, .ref 1)] [.ref 75] (esN (.inl (.float, L, .inl xs)) (bas v) ++ moN (bas v)) false 88 35496 := by
    refine hp_run_sound hp_co V_lw_start C (fun _ _ _ _ _ _ _ hq => hq) [33] 8 _ _ _ _ _ _ _ ?_
    refine Exists.intro 1 (And.intro rfl (And.intro (by decide) (And.intro (by decide) (And.intro (by decide) (And.intro (by decide) (And.intro ak_l ?_))))))
    exact t33
  have t12 : hp_W G 12 [(0, .ref 0)] [.ref 1] (esN (.inl (.float, L, .inl xs)) (bas v)) false 74 12721 := by
    refine hp_run_sound hp_co V_lw_start C (fun _ _ _ _ _ _ _ hq => hq) [25] 8 _ _ _ _ _ _ _ ?_
    refine And.intro (by decide) (And.intro (by decide) ?_)
    refine ic_P (cl _ rfl) (by decide) (by decide) ?_
    refine ic_P (c_mo_init l (.inl (.float, L, .inl xs)) (bas v) v) (by decide) (by decide) ?_
    exact t25
  refine hp_run_sound hp_co V_lw_start C (fun _ _ _ _ _ _ _ hq => hq) [12] 8 _ _ _ _ _ _ _ ?_
  refine And.intro (by decide) (And.intro (by decide) ?_)
  refine ic_P (cl _ rfl) (by decide) (by decide) ?_
  refine ic_P (c_es_init l (.inl (.float, L, .inl xs)) v) (by decide) (by decide) ?_
  exact t12
