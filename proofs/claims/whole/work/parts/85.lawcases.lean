/-! the law's cases: a call of the class, the same of the reference, their answers compared -/
set_option maxRecDepth 40000 in
theorem lc_polygon (l : Launch) (L i : Nat) (xs : Nat → Int32) (hi : i + 6 ≤ L) (hL : L ≤ 3073) {h : hp_H} {s : St} (hS : lwS L xs h s) {k n : Nat} (hk : k + 1 ≤ 601024) (hn : n + 6 ≤ 7293000) {Q : hp_R → hp_H → Prop} {G : hp_G} (C : hp_ctx T_lw_polygon Y_la_law l false 601024 7293000 Q G)
    (nx : ∀ h' s', lwS L xs h' s' → hp_W G 1335 [(0, .ref 0), (1, .ref 1), (2, .ref 75), (3, .ref 89), (4, .int (nI i))] [] h' false (k + 1) (n + 6)) : hp_W G 124 [(0, .ref 0), (1, .ref 1), (2, .ref 75), (3, .ref 89), (4, .int (nI i))] [] h false k n := by
  obtain ⟨hO, h0, he, ⟨cd, hm⟩, ⟨ou, h89⟩⟩ := hS
  have in1 : vp_in (nI i + hp_c 1) L := by rw [show nI i + hp_c 1 = nI (i + 1) from nI_add i 1]; exact in_nI (by omega) (by omega)
  have in2 : vp_in (nI i + hp_c 2) L := by rw [show nI i + hp_c 2 = nI (i + 2) from nI_add i 2]; exact in_nI (by omega) (by omega)
  have in3 : vp_in (nI i + hp_c 3) L := by rw [show nI i + hp_c 3 = nI (i + 3) from nI_add i 3]; exact in_nI (by omega) (by omega)
  have in4 : vp_in (nI i + hp_c 4) L := by rw [show nI i + hp_c 4 = nI (i + 4) from nI_add i 4]; exact in_nI (by omega) (by omega)
  have in5 : vp_in (nI i + hp_c 5) L := by rw [show nI i + hp_c 5 = nI (i + 5) from nI_add i 5]; exact in_nI (by omega) (by omega)
  obtain ⟨N, hcl, hmo⟩ := pr_polygon l s hO (xs (nI i + hp_c 1).toNatClampNeg)
  have hW := w_polygon l h (xs (nI i + hp_c 1).toNatClampNeg) ou he.1 _ (fun r h' => ∃ c x s' o', N c x s' ∧ r = .inl (some (.int (nI c))) ∧ esS h' s' ∧ h'[89]? = some (LA 1 o') ∧ (c = 0 → o' 0 = (fun v => v.toInt64) x) ∧ hxW h h') (hcl h he) (fun r h' hq => wr_i (fun v => v.toInt64) h89 (fun c x s' hN => (hmo c x s' hN).1) hq)
  have t2 : ∀ h1 c x s' o', N c x s' → esS h1 s' → h1[89]? = some (LA 1 o') → (c = 0 → o' 0 = (fun v => v.toInt64) x) → hxW h h1 → hp_W G 137 [(0, .ref 0), (1, .ref 1), (2, .ref 75), (3, .ref 89), (4, .int (nI i)), (5, .int (nI c))] [] h1 false (k + 1) (n + 6) := by
    intro h1 c x s' o' hN he1 ho1 hx1 hxw
    obtain ⟨hc, hO1, hmo1⟩ := hmo c x s' hN
    have h01 := (hxw.2 0 (Or.inl rfl)).trans h0
    have hm1 := moS_hxW hm hxw
    have t3 : ∀ h2 x', (c = 0 → x' = x) → hxM h1 h2 → moS h2 s' (nI c) → hp_W G 149 [(0, .ref 0), (1, .ref 1), (2, .ref 75), (3, .ref 89), (4, .int (nI i)), (5, .int (nI c)), (6, .int x')] [] h2 false (k + 1) (n + 6) := by
      intro h2 x' hx2 hxm hm2
      have h892 := (hxm.2 89 (Or.inr (Nat.le_refl _))).trans ho1
      have fin := nx h2 s' ⟨hO1, (hxm.2 0 (Or.inl (by decide))).trans h01, esS_hxM he1 hxm, ⟨_, hm2⟩, ⟨_, h892⟩⟩
      obtain ⟨u2, hu2, hC2⟩ := id hm2
      refine hp_run_sound hp_co V_lw_polygon C (fun _ _ _ _ _ _ _ hq => hq) [1335] 30 _ _ _ _ _ _ _ ?_
      refine And.intro ⟨3, _, hC2.1, rfl⟩ ?_
      refine ic_P (c_mo_thrown l h2 s' (nI c) hm2) (by omega) (by omega) ?_
      refine And.intro (fun _ => ?_) (fun q => absurd rfl q)
      refine And.intro (fun q => ?_) (fun q => ?_)
      · exact hp_W_pick [0, 1, 2, 3, 4] fin
      · have c0 : c = 0 := (nI_eq (b := 0) (by omega) (by decide)).mp q
        refine Exists.intro 1 (Exists.intro o' (And.intro h892 (And.intro (in_nI (show 0 < 1 by decide) (by decide)) ?_)))
        have e1 : o' (hp_c 0).toNatClampNeg = (fun v => v.toInt64) x := hx1 c0
        rw [e1, hx2 c0]
        exact And.intro (fun _ => hp_W_pick [0, 1, 2, 3, 4] fin) (fun q2 => absurd ((lg_cmp_eq _ _).mpr rfl) q2)
    obtain ⟨u1, hu1, hC1⟩ := id hm1
    refine hp_run_sound hp_co V_lw_polygon C (fun _ _ _ _ _ _ _ hq => hq) [149] 50 _ _ _ _ _ _ _ ?_
    refine Exists.intro .float (Exists.intro L (Exists.intro xs (And.intro (Or.inr rfl) (And.intro h01 (And.intro in1 ?_)))))
    refine And.intro ⟨3, _, hC1.1, rfl⟩ ?_
    refine ic_Q (hmo1 h1 cd hm1) (by omega) (by omega) (fun r h2 hq => ?_)
    obtain ⟨x', rfl, q1, q2, q3⟩ := hq
    exact t3 h2 x' q1 q2 q3
  refine hp_run_sound hp_co V_lw_polygon C (fun _ _ _ _ _ _ _ hq => hq) [137] 50 _ _ _ _ _ _ _ ?_
  refine Exists.intro .float (Exists.intro L (Exists.intro xs (And.intro (Or.inr rfl) (And.intro h0 (And.intro in1 ?_)))))
  refine ic_Q hW (by omega) (by omega) (fun r h1 hq => ?_)
  obtain ⟨c, x, s', o', q1, rfl, q2, q3, q4, q5⟩ := hq
  exact t2 h1 c x s' o' q1 q2 q3 q4 q5
set_option maxRecDepth 40000 in
theorem lc_corner (l : Launch) (L i : Nat) (xs : Nat → Int32) (hi : i + 6 ≤ L) (hL : L ≤ 3073) {h : hp_H} {s : St} (hS : lwS L xs h s) {k n : Nat} (hk : k + 1 ≤ 601024) (hn : n + 6 ≤ 7293000) {Q : hp_R → hp_H → Prop} {G : hp_G} (C : hp_ctx T_lw_corner Y_la_law l false 601024 7293000 Q G)
    (nx : ∀ h' s', lwS L xs h' s' → hp_W G 1335 [(0, .ref 0), (1, .ref 1), (2, .ref 75), (3, .ref 89), (4, .int (nI i))] [] h' false (k + 1) (n + 6)) : hp_W G 180 [(0, .ref 0), (1, .ref 1), (2, .ref 75), (3, .ref 89), (4, .int (nI i))] [] h false k n := by
  obtain ⟨hO, h0, he, ⟨cd, hm⟩, ⟨ou, h89⟩⟩ := hS
  have in1 : vp_in (nI i + hp_c 1) L := by rw [show nI i + hp_c 1 = nI (i + 1) from nI_add i 1]; exact in_nI (by omega) (by omega)
  have in2 : vp_in (nI i + hp_c 2) L := by rw [show nI i + hp_c 2 = nI (i + 2) from nI_add i 2]; exact in_nI (by omega) (by omega)
  have in3 : vp_in (nI i + hp_c 3) L := by rw [show nI i + hp_c 3 = nI (i + 3) from nI_add i 3]; exact in_nI (by omega) (by omega)
  have in4 : vp_in (nI i + hp_c 4) L := by rw [show nI i + hp_c 4 = nI (i + 4) from nI_add i 4]; exact in_nI (by omega) (by omega)
  have in5 : vp_in (nI i + hp_c 5) L := by rw [show nI i + hp_c 5 = nI (i + 5) from nI_add i 5]; exact in_nI (by omega) (by omega)
  obtain ⟨N, hcl, hmo⟩ := pr_corner l s hO (xs (nI i + hp_c 1).toNatClampNeg) (((xs (nI i + hp_c 2).toNatClampNeg).toInt64 <<< ((hp_c 32).toInt64 &&& 63)) ||| ((xs (nI i + hp_c 3).toNatClampNeg).toInt64 &&& 4294967295)) (((xs (nI i + hp_c 4).toNatClampNeg).toInt64 <<< ((hp_c 32).toInt64 &&& 63)) ||| ((xs (nI i + hp_c 5).toNatClampNeg).toInt64 &&& 4294967295))
  have hW := w_corner l h (xs (nI i + hp_c 1).toNatClampNeg) (((xs (nI i + hp_c 2).toNatClampNeg).toInt64 <<< ((hp_c 32).toInt64 &&& 63)) ||| ((xs (nI i + hp_c 3).toNatClampNeg).toInt64 &&& 4294967295)) (((xs (nI i + hp_c 4).toNatClampNeg).toInt64 <<< ((hp_c 32).toInt64 &&& 63)) ||| ((xs (nI i + hp_c 5).toNatClampNeg).toInt64 &&& 4294967295)) ou he.1 _ (fun r h' => ∃ c x s' o', N c x s' ∧ r = .inl (some (.int (nI c))) ∧ esS h' s' ∧ h'[89]? = some (LA 1 o') ∧ (c = 0 → o' 0 = (fun v => if v = 0 then 0 else 1) x) ∧ hxW h h') (hcl h he) (fun r h' hq => wr_i (fun v => if v = 0 then 0 else 1) h89 (fun c x s' hN => (hmo c x s' hN).1) hq)
  have t2 : ∀ h1 c x s' o', N c x s' → esS h1 s' → h1[89]? = some (LA 1 o') → (c = 0 → o' 0 = (fun v => if v = 0 then 0 else 1) x) → hxW h h1 → hp_W G 237 [(0, .ref 0), (1, .ref 1), (2, .ref 75), (3, .ref 89), (4, .int (nI i)), (5, .int (nI c))] [] h1 false (k + 1) (n + 6) := by
    intro h1 c x s' o' hN he1 ho1 hx1 hxw
    obtain ⟨hc, hO1, hmo1⟩ := hmo c x s' hN
    have h01 := (hxw.2 0 (Or.inl rfl)).trans h0
    have hm1 := moS_hxW hm hxw
    have t3 : ∀ h2 x', (c = 0 → x' = x) → hxM h1 h2 → moS h2 s' (nI c) → hp_W G 293 [(0, .ref 0), (1, .ref 1), (2, .ref 75), (3, .ref 89), (4, .int (nI i)), (5, .int (nI c)), (6, .int x')] [] h2 false (k + 1) (n + 6) := by
      intro h2 x' hx2 hxm hm2
      have h892 := (hxm.2 89 (Or.inr (Nat.le_refl _))).trans ho1
      have fin := nx h2 s' ⟨hO1, (hxm.2 0 (Or.inl (by decide))).trans h01, esS_hxM he1 hxm, ⟨_, hm2⟩, ⟨_, h892⟩⟩
      obtain ⟨u2, hu2, hC2⟩ := id hm2
      refine hp_run_sound hp_co V_lw_corner C (fun _ _ _ _ _ _ _ hq => hq) [1335] 30 _ _ _ _ _ _ _ ?_
      refine And.intro ⟨3, _, hC2.1, rfl⟩ ?_
      refine ic_P (c_mo_thrown l h2 s' (nI c) hm2) (by omega) (by omega) ?_
      refine And.intro (fun _ => ?_) (fun q => absurd rfl q)
      refine And.intro (fun q => ?_) (fun q => ?_)
      · exact hp_W_pick [0, 1, 2, 3, 4] fin
      · have c0 : c = 0 := (nI_eq (b := 0) (by omega) (by decide)).mp q
        refine Exists.intro 1 (Exists.intro o' (And.intro h892 (And.intro (in_nI (show 0 < 1 by decide) (by decide)) ?_)))
        have e1 : o' (hp_c 0).toNatClampNeg = (fun v => if v = 0 then 0 else 1) x := hx1 c0
        rw [e1, hx2 c0]
        refine And.intro (fun q => ?_) (fun q => ?_)
        · refine And.intro (fun _ => hp_W_pick [0, 1, 2, 3, 4] fin) (fun q2 => absurd ((lg_cmp_eq _ _).mpr (if_pos q)) q2)
        · refine And.intro (fun _ => hp_W_pick [0, 1, 2, 3, 4] fin) (fun q2 => absurd ((lg_cmp_eq _ _).mpr (if_neg q)) q2)
    obtain ⟨u1, hu1, hC1⟩ := id hm1
    refine hp_run_sound hp_co V_lw_corner C (fun _ _ _ _ _ _ _ hq => hq) [293] 50 _ _ _ _ _ _ _ ?_
    refine Exists.intro .float (Exists.intro L (Exists.intro xs (And.intro (Or.inr rfl) (And.intro h01 (And.intro in1 ?_)))))
    refine Exists.intro .float (Exists.intro L (Exists.intro xs (And.intro (Or.inr rfl) (And.intro h01 (And.intro in2 ?_)))))
    refine Exists.intro .float (Exists.intro L (Exists.intro xs (And.intro (Or.inr rfl) (And.intro h01 (And.intro in3 ?_)))))
    refine Exists.intro .float (Exists.intro L (Exists.intro xs (And.intro (Or.inr rfl) (And.intro h01 (And.intro in4 ?_)))))
    refine Exists.intro .float (Exists.intro L (Exists.intro xs (And.intro (Or.inr rfl) (And.intro h01 (And.intro in5 ?_)))))
    refine And.intro ⟨3, _, hC1.1, rfl⟩ ?_
    refine ic_Q (hmo1 h1 cd hm1) (by omega) (by omega) (fun r h2 hq => ?_)
    obtain ⟨x', rfl, q1, q2, q3⟩ := hq
    exact t3 h2 x' q1 q2 q3
  refine hp_run_sound hp_co V_lw_corner C (fun _ _ _ _ _ _ _ hq => hq) [237] 50 _ _ _ _ _ _ _ ?_
  refine Exists.intro .float (Exists.intro L (Exists.intro xs (And.intro (Or.inr rfl) (And.intro h0 (And.intro in1 ?_)))))
  refine Exists.intro .float (Exists.intro L (Exists.intro xs (And.intro (Or.inr rfl) (And.intro h0 (And.intro in2 ?_)))))
  refine Exists.intro .float (Exists.intro L (Exists.intro xs (And.intro (Or.inr rfl) (And.intro h0 (And.intro in3 ?_)))))
  refine Exists.intro .float (Exists.intro L (Exists.intro xs (And.intro (Or.inr rfl) (And.intro h0 (And.intro in4 ?_)))))
  refine Exists.intro .float (Exists.intro L (Exists.intro xs (And.intro (Or.inr rfl) (And.intro h0 (And.intro in5 ?_)))))
  refine ic_Q hW (by omega) (by omega) (fun r h1 hq => ?_)
  obtain ⟨c, x, s', o', q1, rfl, q2, q3, q4, q5⟩ := hq
  exact t2 h1 c x s' o' q1 q2 q3 q4 q5
set_option maxRecDepth 40000 in
theorem lc_op (l : Launch) (L i : Nat) (xs : Nat → Int32) (hi : i + 6 ≤ L) (hL : L ≤ 3073) {h : hp_H} {s : St} (hS : lwS L xs h s) {k n : Nat} (hk : k + 1 ≤ 601024) (hn : n + 6 ≤ 7293000) {Q : hp_R → hp_H → Prop} {G : hp_G} (C : hp_ctx T_lw_op Y_la_law l false 601024 7293000 Q G)
    (nx : ∀ h' s', lwS L xs h' s' → hp_W G 1335 [(0, .ref 0), (1, .ref 1), (2, .ref 75), (3, .ref 89), (4, .int (nI i))] [] h' false (k + 1) (n + 6)) : hp_W G 331 [(0, .ref 0), (1, .ref 1), (2, .ref 75), (3, .ref 89), (4, .int (nI i))] [] h false k n := by
  obtain ⟨hO, h0, he, ⟨cd, hm⟩, ⟨ou, h89⟩⟩ := hS
  have in1 : vp_in (nI i + hp_c 1) L := by rw [show nI i + hp_c 1 = nI (i + 1) from nI_add i 1]; exact in_nI (by omega) (by omega)
  have in2 : vp_in (nI i + hp_c 2) L := by rw [show nI i + hp_c 2 = nI (i + 2) from nI_add i 2]; exact in_nI (by omega) (by omega)
  have in3 : vp_in (nI i + hp_c 3) L := by rw [show nI i + hp_c 3 = nI (i + 3) from nI_add i 3]; exact in_nI (by omega) (by omega)
  have in4 : vp_in (nI i + hp_c 4) L := by rw [show nI i + hp_c 4 = nI (i + 4) from nI_add i 4]; exact in_nI (by omega) (by omega)
  have in5 : vp_in (nI i + hp_c 5) L := by rw [show nI i + hp_c 5 = nI (i + 5) from nI_add i 5]; exact in_nI (by omega) (by omega)
  obtain ⟨N, hcl, hmo⟩ := pr_op l s hO (xs (nI i + hp_c 1).toNatClampNeg) (xs (nI i + hp_c 2).toNatClampNeg) (xs (nI i + hp_c 3).toNatClampNeg)
  have hW := w_op l h (xs (nI i + hp_c 1).toNatClampNeg) (xs (nI i + hp_c 2).toNatClampNeg) (xs (nI i + hp_c 3).toNatClampNeg) ou he.1 _ (fun r h' => ∃ c x s' o', N c x s' ∧ r = .inl (some (.int (nI c))) ∧ esS h' s' ∧ h'[89]? = some (LA 1 o') ∧ (c = 0 → o' 0 = (fun v => v.toInt64) x) ∧ hxW h h') (hcl h he) (fun r h' hq => wr_i (fun v => v.toInt64) h89 (fun c x s' hN => (hmo c x s' hN).1) hq)
  have t2 : ∀ h1 c x s' o', N c x s' → esS h1 s' → h1[89]? = some (LA 1 o') → (c = 0 → o' 0 = (fun v => v.toInt64) x) → hxW h h1 → hp_W G 356 [(0, .ref 0), (1, .ref 1), (2, .ref 75), (3, .ref 89), (4, .int (nI i)), (5, .int (nI c))] [] h1 false (k + 1) (n + 6) := by
    intro h1 c x s' o' hN he1 ho1 hx1 hxw
    obtain ⟨hc, hO1, hmo1⟩ := hmo c x s' hN
    have h01 := (hxw.2 0 (Or.inl rfl)).trans h0
    have hm1 := moS_hxW hm hxw
    have t3 : ∀ h2 x', (c = 0 → x' = x) → hxM h1 h2 → moS h2 s' (nI c) → hp_W G 380 [(0, .ref 0), (1, .ref 1), (2, .ref 75), (3, .ref 89), (4, .int (nI i)), (5, .int (nI c)), (6, .int x')] [] h2 false (k + 1) (n + 6) := by
      intro h2 x' hx2 hxm hm2
      have h892 := (hxm.2 89 (Or.inr (Nat.le_refl _))).trans ho1
      have fin := nx h2 s' ⟨hO1, (hxm.2 0 (Or.inl (by decide))).trans h01, esS_hxM he1 hxm, ⟨_, hm2⟩, ⟨_, h892⟩⟩
      obtain ⟨u2, hu2, hC2⟩ := id hm2
      refine hp_run_sound hp_co V_lw_op C (fun _ _ _ _ _ _ _ hq => hq) [1335] 30 _ _ _ _ _ _ _ ?_
      refine And.intro ⟨3, _, hC2.1, rfl⟩ ?_
      refine ic_P (c_mo_thrown l h2 s' (nI c) hm2) (by omega) (by omega) ?_
      refine And.intro (fun _ => ?_) (fun q => absurd rfl q)
      refine And.intro (fun q => ?_) (fun q => ?_)
      · exact hp_W_pick [0, 1, 2, 3, 4] fin
      · have c0 : c = 0 := (nI_eq (b := 0) (by omega) (by decide)).mp q
        refine Exists.intro 1 (Exists.intro o' (And.intro h892 (And.intro (in_nI (show 0 < 1 by decide) (by decide)) ?_)))
        have e1 : o' (hp_c 0).toNatClampNeg = (fun v => v.toInt64) x := hx1 c0
        rw [e1, hx2 c0]
        exact And.intro (fun _ => hp_W_pick [0, 1, 2, 3, 4] fin) (fun q2 => absurd ((lg_cmp_eq _ _).mpr rfl) q2)
    obtain ⟨u1, hu1, hC1⟩ := id hm1
    refine hp_run_sound hp_co V_lw_op C (fun _ _ _ _ _ _ _ hq => hq) [380] 50 _ _ _ _ _ _ _ ?_
    refine Exists.intro .float (Exists.intro L (Exists.intro xs (And.intro (Or.inr rfl) (And.intro h01 (And.intro in1 ?_)))))
    refine Exists.intro .float (Exists.intro L (Exists.intro xs (And.intro (Or.inr rfl) (And.intro h01 (And.intro in2 ?_)))))
    refine Exists.intro .float (Exists.intro L (Exists.intro xs (And.intro (Or.inr rfl) (And.intro h01 (And.intro in3 ?_)))))
    refine And.intro ⟨3, _, hC1.1, rfl⟩ ?_
    refine ic_Q (hmo1 h1 cd hm1) (by omega) (by omega) (fun r h2 hq => ?_)
    obtain ⟨x', rfl, q1, q2, q3⟩ := hq
    exact t3 h2 x' q1 q2 q3
  refine hp_run_sound hp_co V_lw_op C (fun _ _ _ _ _ _ _ hq => hq) [356] 50 _ _ _ _ _ _ _ ?_
  refine Exists.intro .float (Exists.intro L (Exists.intro xs (And.intro (Or.inr rfl) (And.intro h0 (And.intro in1 ?_)))))
  refine Exists.intro .float (Exists.intro L (Exists.intro xs (And.intro (Or.inr rfl) (And.intro h0 (And.intro in2 ?_)))))
  refine Exists.intro .float (Exists.intro L (Exists.intro xs (And.intro (Or.inr rfl) (And.intro h0 (And.intro in3 ?_)))))
  refine ic_Q hW (by omega) (by omega) (fun r h1 hq => ?_)
  obtain ⟨c, x, s', o', q1, rfl, q2, q3, q4, q5⟩ := hq
  exact t2 h1 c x s' o' q1 q2 q3 q4 q5
set_option maxRecDepth 40000 in
theorem lc_size (l : Launch) (L i : Nat) (xs : Nat → Int32) (hi : i + 6 ≤ L) (hL : L ≤ 3073) {h : hp_H} {s : St} (hS : lwS L xs h s) {k n : Nat} (hk : k + 1 ≤ 601024) (hn : n + 6 ≤ 7293000) {Q : hp_R → hp_H → Prop} {G : hp_G} (C : hp_ctx T_lw_size Y_la_law l false 601024 7293000 Q G)
    (nx : ∀ h' s', lwS L xs h' s' → hp_W G 1335 [(0, .ref 0), (1, .ref 1), (2, .ref 75), (3, .ref 89), (4, .int (nI i))] [] h' false (k + 1) (n + 6)) : hp_W G 411 [(0, .ref 0), (1, .ref 1), (2, .ref 75), (3, .ref 89), (4, .int (nI i))] [] h false k n := by
  obtain ⟨hO, h0, he, ⟨cd, hm⟩, ⟨ou, h89⟩⟩ := hS
  have in1 : vp_in (nI i + hp_c 1) L := by rw [show nI i + hp_c 1 = nI (i + 1) from nI_add i 1]; exact in_nI (by omega) (by omega)
  have in2 : vp_in (nI i + hp_c 2) L := by rw [show nI i + hp_c 2 = nI (i + 2) from nI_add i 2]; exact in_nI (by omega) (by omega)
  have in3 : vp_in (nI i + hp_c 3) L := by rw [show nI i + hp_c 3 = nI (i + 3) from nI_add i 3]; exact in_nI (by omega) (by omega)
  have in4 : vp_in (nI i + hp_c 4) L := by rw [show nI i + hp_c 4 = nI (i + 4) from nI_add i 4]; exact in_nI (by omega) (by omega)
  have in5 : vp_in (nI i + hp_c 5) L := by rw [show nI i + hp_c 5 = nI (i + 5) from nI_add i 5]; exact in_nI (by omega) (by omega)
  have main : ∀ b4 : Bool, b4 = !decide ((xs (nI i + hp_c 4).toNatClampNeg) = 0) → hp_W G 454 [(0, .ref 0), (1, .ref 1), (2, .ref 75), (3, .ref 89), (4, .int (nI i))] [.int (zI b4), .long (((xs (nI i + hp_c 2).toNatClampNeg).toInt64 <<< ((hp_c 32).toInt64 &&& 63)) ||| ((xs (nI i + hp_c 3).toNatClampNeg).toInt64 &&& 4294967295)), .int (xs (nI i + hp_c 1).toNatClampNeg), .ref 1] h false k n := by
    intro b4 hb4
    obtain ⟨N, hcl, hmo⟩ := pr_size l s hO (xs (nI i + hp_c 1).toNatClampNeg) (((xs (nI i + hp_c 2).toNatClampNeg).toInt64 <<< ((hp_c 32).toInt64 &&& 63)) ||| ((xs (nI i + hp_c 3).toNatClampNeg).toInt64 &&& 4294967295)) b4
    have hW := w_size l h (xs (nI i + hp_c 1).toNatClampNeg) (((xs (nI i + hp_c 2).toNatClampNeg).toInt64 <<< ((hp_c 32).toInt64 &&& 63)) ||| ((xs (nI i + hp_c 3).toNatClampNeg).toInt64 &&& 4294967295)) (zI b4) ou he.1 _ (fun r h' => ∃ c x s' o', N c x s' ∧ r = .inl (some (.int (nI c))) ∧ esS h' s' ∧ h'[89]? = some (LA 1 o') ∧ (c = 0 → o' 0 = (fun v => v.toInt64) x) ∧ hxW h h') (hcl h he) (fun r h' hq => wr_i (fun v => v.toInt64) h89 (fun c x s' hN => (hmo c x s' hN).1) hq)
    have t2 : ∀ h1 c x s' o', N c x s' → esS h1 s' → h1[89]? = some (LA 1 o') → (c = 0 → o' 0 = (fun v => v.toInt64) x) → hxW h h1 → hp_W G 460 [(0, .ref 0), (1, .ref 1), (2, .ref 75), (3, .ref 89), (4, .int (nI i)), (5, .int (nI c))] [] h1 false (k + 1) (n + 6) := by
      intro h1 c x s' o' hN he1 ho1 hx1 hxw
      obtain ⟨hc, hO1, hmo1⟩ := hmo c x s' hN
      have h01 := (hxw.2 0 (Or.inl rfl)).trans h0
      have hm1 := moS_hxW hm hxw
      have t3 : ∀ h2 x', (c = 0 → x' = x) → hxM h1 h2 → moS h2 s' (nI c) → hp_W G 508 [(0, .ref 0), (1, .ref 1), (2, .ref 75), (3, .ref 89), (4, .int (nI i)), (5, .int (nI c)), (6, .int x')] [] h2 false (k + 1) (n + 6) := by
        intro h2 x' hx2 hxm hm2
        have h892 := (hxm.2 89 (Or.inr (Nat.le_refl _))).trans ho1
        have fin := nx h2 s' ⟨hO1, (hxm.2 0 (Or.inl (by decide))).trans h01, esS_hxM he1 hxm, ⟨_, hm2⟩, ⟨_, h892⟩⟩
        obtain ⟨u2, hu2, hC2⟩ := id hm2
        refine hp_run_sound hp_co V_lw_size C (fun _ _ _ _ _ _ _ hq => hq) [1335] 30 _ _ _ _ _ _ _ ?_
        refine And.intro ⟨3, _, hC2.1, rfl⟩ ?_
        refine ic_P (c_mo_thrown l h2 s' (nI c) hm2) (by omega) (by omega) ?_
        refine And.intro (fun _ => ?_) (fun q => absurd rfl q)
        refine And.intro (fun q => ?_) (fun q => ?_)
        · exact hp_W_pick [0, 1, 2, 3, 4] fin
        · have c0 : c = 0 := (nI_eq (b := 0) (by omega) (by decide)).mp q
          refine Exists.intro 1 (Exists.intro o' (And.intro h892 (And.intro (in_nI (show 0 < 1 by decide) (by decide)) ?_)))
          have e1 : o' (hp_c 0).toNatClampNeg = (fun v => v.toInt64) x := hx1 c0
          rw [e1, hx2 c0]
          exact And.intro (fun _ => hp_W_pick [0, 1, 2, 3, 4] fin) (fun q2 => absurd ((lg_cmp_eq _ _).mpr rfl) q2)
      obtain ⟨u1, hu1, hC1⟩ := id hm1
      have t503 : hp_W G 503 [(0, .ref 0), (1, .ref 1), (2, .ref 75), (3, .ref 89), (4, .int (nI i)), (5, .int (nI c))] [.int (zI b4), .long (((xs (nI i + hp_c 2).toNatClampNeg).toInt64 <<< ((hp_c 32).toInt64 &&& 63)) ||| ((xs (nI i + hp_c 3).toNatClampNeg).toInt64 &&& 4294967295)), .int (xs (nI i + hp_c 1).toNatClampNeg), .ref 75] h1 false (k + 1) (n + 6) := by
        refine hp_run_sound hp_co V_lw_size C (fun _ _ _ _ _ _ _ hq => hq) [508] 4 _ _ _ _ _ _ _ ?_
        refine And.intro ⟨3, _, hC1.1, rfl⟩ ?_
        refine ic_Q (hmo1 h1 cd hm1) (by omega) (by omega) (fun r h2 hq => ?_)
        obtain ⟨x', rfl, q1, q2, q3⟩ := hq
        exact t3 h2 x' q1 q2 q3
      refine hp_run_sound hp_co V_lw_size C (fun _ _ _ _ _ _ _ hq => hq) [503] 50 _ _ _ _ _ _ _ ?_
      refine Exists.intro .float (Exists.intro L (Exists.intro xs (And.intro (Or.inr rfl) (And.intro h01 (And.intro in1 ?_)))))
      refine Exists.intro .float (Exists.intro L (Exists.intro xs (And.intro (Or.inr rfl) (And.intro h01 (And.intro in2 ?_)))))
      refine Exists.intro .float (Exists.intro L (Exists.intro xs (And.intro (Or.inr rfl) (And.intro h01 (And.intro in3 ?_)))))
      refine Exists.intro .float (Exists.intro L (Exists.intro xs (And.intro (Or.inr rfl) (And.intro h01 (And.intro in4 ?_)))))
      refine And.intro (fun q => ?_) (fun q => ?_)
      · have eb : b4 = false := by rw [hb4, decide_eq_true (show (xs (nI i + hp_c 4).toNatClampNeg) = 0 from q)]; rfl
        rw [eb] at t503
        exact t503
      · have eb : b4 = true := by rw [hb4, decide_eq_false (show ¬ (xs (nI i + hp_c 4).toNatClampNeg) = 0 from q)]; rfl
        rw [eb] at t503
        exact t503
    refine hp_run_sound hp_co V_lw_size C (fun _ _ _ _ _ _ _ hq => hq) [460] 6 _ _ _ _ _ _ _ ?_
    refine ic_Q hW (by omega) (by omega) (fun r h1 hq => ?_)
    obtain ⟨c, x, s', o', q1, rfl, q2, q3, q4, q5⟩ := hq
    exact t2 h1 c x s' o' q1 q2 q3 q4 q5
  refine hp_run_sound hp_co V_lw_size C (fun _ _ _ _ _ _ _ hq => hq) [454] 50 _ _ _ _ _ _ _ ?_
  refine Exists.intro .float (Exists.intro L (Exists.intro xs (And.intro (Or.inr rfl) (And.intro h0 (And.intro in1 ?_)))))
  refine Exists.intro .float (Exists.intro L (Exists.intro xs (And.intro (Or.inr rfl) (And.intro h0 (And.intro in2 ?_)))))
  refine Exists.intro .float (Exists.intro L (Exists.intro xs (And.intro (Or.inr rfl) (And.intro h0 (And.intro in3 ?_)))))
  refine Exists.intro .float (Exists.intro L (Exists.intro xs (And.intro (Or.inr rfl) (And.intro h0 (And.intro in4 ?_)))))
  refine And.intro (fun q => ?_) (fun q => ?_)
  · exact main false (by rw [decide_eq_true (show (xs (nI i + hp_c 4).toNatClampNeg) = 0 from q)]; rfl)
  · exact main true (by rw [decide_eq_false (show ¬ (xs (nI i + hp_c 4).toNatClampNeg) = 0 from q)]; rfl)
set_option maxRecDepth 40000 in
theorem lc_shapes (l : Launch) (L i : Nat) (xs : Nat → Int32) (hi : i + 6 ≤ L) (hL : L ≤ 3073) {h : hp_H} {s : St} (hS : lwS L xs h s) {k n : Nat} (hk : k + 1 ≤ 601024) (hn : n + 6 ≤ 7293000) {Q : hp_R → hp_H → Prop} {G : hp_G} (C : hp_ctx T_lw_shapes Y_la_law l false 601024 7293000 Q G)
    (nx : ∀ h' s', lwS L xs h' s' → hp_W G 1335 [(0, .ref 0), (1, .ref 1), (2, .ref 75), (3, .ref 89), (4, .int (nI i))] [] h' false (k + 1) (n + 6)) : hp_W G 539 [(0, .ref 0), (1, .ref 1), (2, .ref 75), (3, .ref 89), (4, .int (nI i))] [] h false k n := by
  obtain ⟨hO, h0, he, ⟨cd, hm⟩, ⟨ou, h89⟩⟩ := hS
  have in1 : vp_in (nI i + hp_c 1) L := by rw [show nI i + hp_c 1 = nI (i + 1) from nI_add i 1]; exact in_nI (by omega) (by omega)
  have in2 : vp_in (nI i + hp_c 2) L := by rw [show nI i + hp_c 2 = nI (i + 2) from nI_add i 2]; exact in_nI (by omega) (by omega)
  have in3 : vp_in (nI i + hp_c 3) L := by rw [show nI i + hp_c 3 = nI (i + 3) from nI_add i 3]; exact in_nI (by omega) (by omega)
  have in4 : vp_in (nI i + hp_c 4) L := by rw [show nI i + hp_c 4 = nI (i + 4) from nI_add i 4]; exact in_nI (by omega) (by omega)
  have in5 : vp_in (nI i + hp_c 5) L := by rw [show nI i + hp_c 5 = nI (i + 5) from nI_add i 5]; exact in_nI (by omega) (by omega)
  obtain ⟨N, hcl, hmo⟩ := pr_shapes l s hO (xs (nI i + hp_c 1).toNatClampNeg)
  have hW := w_shapes l h (xs (nI i + hp_c 1).toNatClampNeg) ou he.1 _ (fun r h' => ∃ c x s' o', N c x s' ∧ r = .inl (some (.int (nI c))) ∧ esS h' s' ∧ h'[89]? = some (LA 1 o') ∧ (c = 0 → o' 0 = (fun v => v.toInt64) x) ∧ hxW h h') (hcl h he) (fun r h' hq => wr_i (fun v => v.toInt64) h89 (fun c x s' hN => (hmo c x s' hN).1) hq)
  have t2 : ∀ h1 c x s' o', N c x s' → esS h1 s' → h1[89]? = some (LA 1 o') → (c = 0 → o' 0 = (fun v => v.toInt64) x) → hxW h h1 → hp_W G 552 [(0, .ref 0), (1, .ref 1), (2, .ref 75), (3, .ref 89), (4, .int (nI i)), (5, .int (nI c))] [] h1 false (k + 1) (n + 6) := by
    intro h1 c x s' o' hN he1 ho1 hx1 hxw
    obtain ⟨hc, hO1, hmo1⟩ := hmo c x s' hN
    have h01 := (hxw.2 0 (Or.inl rfl)).trans h0
    have hm1 := moS_hxW hm hxw
    have t3 : ∀ h2 x', (c = 0 → x' = x) → hxM h1 h2 → moS h2 s' (nI c) → hp_W G 564 [(0, .ref 0), (1, .ref 1), (2, .ref 75), (3, .ref 89), (4, .int (nI i)), (5, .int (nI c)), (6, .int x')] [] h2 false (k + 1) (n + 6) := by
      intro h2 x' hx2 hxm hm2
      have h892 := (hxm.2 89 (Or.inr (Nat.le_refl _))).trans ho1
      have fin := nx h2 s' ⟨hO1, (hxm.2 0 (Or.inl (by decide))).trans h01, esS_hxM he1 hxm, ⟨_, hm2⟩, ⟨_, h892⟩⟩
      obtain ⟨u2, hu2, hC2⟩ := id hm2
      refine hp_run_sound hp_co V_lw_shapes C (fun _ _ _ _ _ _ _ hq => hq) [1335] 30 _ _ _ _ _ _ _ ?_
      refine And.intro ⟨3, _, hC2.1, rfl⟩ ?_
      refine ic_P (c_mo_thrown l h2 s' (nI c) hm2) (by omega) (by omega) ?_
      refine And.intro (fun _ => ?_) (fun q => absurd rfl q)
      refine And.intro (fun q => ?_) (fun q => ?_)
      · exact hp_W_pick [0, 1, 2, 3, 4] fin
      · have c0 : c = 0 := (nI_eq (b := 0) (by omega) (by decide)).mp q
        refine Exists.intro 1 (Exists.intro o' (And.intro h892 (And.intro (in_nI (show 0 < 1 by decide) (by decide)) ?_)))
        have e1 : o' (hp_c 0).toNatClampNeg = (fun v => v.toInt64) x := hx1 c0
        rw [e1, hx2 c0]
        exact And.intro (fun _ => hp_W_pick [0, 1, 2, 3, 4] fin) (fun q2 => absurd ((lg_cmp_eq _ _).mpr rfl) q2)
    obtain ⟨u1, hu1, hC1⟩ := id hm1
    refine hp_run_sound hp_co V_lw_shapes C (fun _ _ _ _ _ _ _ hq => hq) [564] 50 _ _ _ _ _ _ _ ?_
    refine Exists.intro .float (Exists.intro L (Exists.intro xs (And.intro (Or.inr rfl) (And.intro h01 (And.intro in1 ?_)))))
    refine And.intro ⟨3, _, hC1.1, rfl⟩ ?_
    refine ic_Q (hmo1 h1 cd hm1) (by omega) (by omega) (fun r h2 hq => ?_)
    obtain ⟨x', rfl, q1, q2, q3⟩ := hq
    exact t3 h2 x' q1 q2 q3
  refine hp_run_sound hp_co V_lw_shapes C (fun _ _ _ _ _ _ _ hq => hq) [552] 50 _ _ _ _ _ _ _ ?_
  refine Exists.intro .float (Exists.intro L (Exists.intro xs (And.intro (Or.inr rfl) (And.intro h0 (And.intro in1 ?_)))))
  refine ic_Q hW (by omega) (by omega) (fun r h1 hq => ?_)
  obtain ⟨c, x, s', o', q1, rfl, q2, q3, q4, q5⟩ := hq
  exact t2 h1 c x s' o' q1 q2 q3 q4 q5
set_option maxRecDepth 40000 in
theorem lc_at (l : Launch) (L i : Nat) (xs : Nat → Int32) (hi : i + 6 ≤ L) (hL : L ≤ 3073) {h : hp_H} {s : St} (hS : lwS L xs h s) {k n : Nat} (hk : k + 1 ≤ 601024) (hn : n + 6 ≤ 7293000) {Q : hp_R → hp_H → Prop} {G : hp_G} (C : hp_ctx T_lw_at Y_la_law l false 601024 7293000 Q G)
    (nx : ∀ h' s', lwS L xs h' s' → hp_W G 1335 [(0, .ref 0), (1, .ref 1), (2, .ref 75), (3, .ref 89), (4, .int (nI i))] [] h' false (k + 1) (n + 6)) : hp_W G 595 [(0, .ref 0), (1, .ref 1), (2, .ref 75), (3, .ref 89), (4, .int (nI i))] [] h false k n := by
  obtain ⟨hO, h0, he, ⟨cd, hm⟩, ⟨ou, h89⟩⟩ := hS
  have in1 : vp_in (nI i + hp_c 1) L := by rw [show nI i + hp_c 1 = nI (i + 1) from nI_add i 1]; exact in_nI (by omega) (by omega)
  have in2 : vp_in (nI i + hp_c 2) L := by rw [show nI i + hp_c 2 = nI (i + 2) from nI_add i 2]; exact in_nI (by omega) (by omega)
  have in3 : vp_in (nI i + hp_c 3) L := by rw [show nI i + hp_c 3 = nI (i + 3) from nI_add i 3]; exact in_nI (by omega) (by omega)
  have in4 : vp_in (nI i + hp_c 4) L := by rw [show nI i + hp_c 4 = nI (i + 4) from nI_add i 4]; exact in_nI (by omega) (by omega)
  have in5 : vp_in (nI i + hp_c 5) L := by rw [show nI i + hp_c 5 = nI (i + 5) from nI_add i 5]; exact in_nI (by omega) (by omega)
  obtain ⟨N, hcl, hmo⟩ := pr_at l s hO (xs (nI i + hp_c 1).toNatClampNeg) (xs (nI i + hp_c 2).toNatClampNeg) (xs (nI i + hp_c 3).toNatClampNeg) (xs (nI i + hp_c 4).toNatClampNeg)
  have hW := w_at l h (xs (nI i + hp_c 1).toNatClampNeg) (xs (nI i + hp_c 2).toNatClampNeg) (xs (nI i + hp_c 3).toNatClampNeg) (xs (nI i + hp_c 4).toNatClampNeg) ou he.1 _ (fun r h' => ∃ c x s' o', N c x s' ∧ r = .inl (some (.int (nI c))) ∧ esS h' s' ∧ h'[89]? = some (LA 1 o') ∧ (c = 0 → o' 0 = (fun v => v) x) ∧ hxW h h') (hcl h he) (fun r h' hq => wr_l (fun v => v) h89 (fun c x s' hN => (hmo c x s' hN).1) hq)
  have t2 : ∀ h1 c x s' o', N c x s' → esS h1 s' → h1[89]? = some (LA 1 o') → (c = 0 → o' 0 = (fun v => v) x) → hxW h h1 → hp_W G 626 [(0, .ref 0), (1, .ref 1), (2, .ref 75), (3, .ref 89), (4, .int (nI i)), (5, .int (nI c))] [] h1 false (k + 1) (n + 6) := by
    intro h1 c x s' o' hN he1 ho1 hx1 hxw
    obtain ⟨hc, hO1, hmo1⟩ := hmo c x s' hN
    have h01 := (hxw.2 0 (Or.inl rfl)).trans h0
    have hm1 := moS_hxW hm hxw
    have t3 : ∀ h2 x', (c = 0 → x' = x) → hxM h1 h2 → moS h2 s' (nI c) → hp_W G 656 [(0, .ref 0), (1, .ref 1), (2, .ref 75), (3, .ref 89), (4, .int (nI i)), (5, .int (nI c)), (6, .long x')] [] h2 false (k + 1) (n + 6) := by
      intro h2 x' hx2 hxm hm2
      have h892 := (hxm.2 89 (Or.inr (Nat.le_refl _))).trans ho1
      have fin := nx h2 s' ⟨hO1, (hxm.2 0 (Or.inl (by decide))).trans h01, esS_hxM he1 hxm, ⟨_, hm2⟩, ⟨_, h892⟩⟩
      obtain ⟨u2, hu2, hC2⟩ := id hm2
      refine hp_run_sound hp_co V_lw_at C (fun _ _ _ _ _ _ _ hq => hq) [1335] 30 _ _ _ _ _ _ _ ?_
      refine And.intro ⟨3, _, hC2.1, rfl⟩ ?_
      refine ic_P (c_mo_thrown l h2 s' (nI c) hm2) (by omega) (by omega) ?_
      refine And.intro (fun _ => ?_) (fun q => absurd rfl q)
      refine And.intro (fun q => ?_) (fun q => ?_)
      · exact hp_W_pick [0, 1, 2, 3, 4] fin
      · have c0 : c = 0 := (nI_eq (b := 0) (by omega) (by decide)).mp q
        refine Exists.intro 1 (Exists.intro o' (And.intro h892 (And.intro (in_nI (show 0 < 1 by decide) (by decide)) ?_)))
        have e1 : o' (hp_c 0).toNatClampNeg = (fun v => v) x := hx1 c0
        rw [e1, hx2 c0]
        exact And.intro (fun _ => hp_W_pick [0, 1, 2, 3, 4] fin) (fun q2 => absurd ((lg_cmp_eq _ _).mpr rfl) q2)
    obtain ⟨u1, hu1, hC1⟩ := id hm1
    refine hp_run_sound hp_co V_lw_at C (fun _ _ _ _ _ _ _ hq => hq) [656] 50 _ _ _ _ _ _ _ ?_
    refine Exists.intro .float (Exists.intro L (Exists.intro xs (And.intro (Or.inr rfl) (And.intro h01 (And.intro in1 ?_)))))
    refine Exists.intro .float (Exists.intro L (Exists.intro xs (And.intro (Or.inr rfl) (And.intro h01 (And.intro in2 ?_)))))
    refine Exists.intro .float (Exists.intro L (Exists.intro xs (And.intro (Or.inr rfl) (And.intro h01 (And.intro in3 ?_)))))
    refine Exists.intro .float (Exists.intro L (Exists.intro xs (And.intro (Or.inr rfl) (And.intro h01 (And.intro in4 ?_)))))
    refine And.intro ⟨3, _, hC1.1, rfl⟩ ?_
    refine ic_Q (hmo1 h1 cd hm1) (by omega) (by omega) (fun r h2 hq => ?_)
    obtain ⟨x', rfl, q1, q2, q3⟩ := hq
    exact t3 h2 x' q1 q2 q3
  refine hp_run_sound hp_co V_lw_at C (fun _ _ _ _ _ _ _ hq => hq) [626] 50 _ _ _ _ _ _ _ ?_
  refine Exists.intro .float (Exists.intro L (Exists.intro xs (And.intro (Or.inr rfl) (And.intro h0 (And.intro in1 ?_)))))
  refine Exists.intro .float (Exists.intro L (Exists.intro xs (And.intro (Or.inr rfl) (And.intro h0 (And.intro in2 ?_)))))
  refine Exists.intro .float (Exists.intro L (Exists.intro xs (And.intro (Or.inr rfl) (And.intro h0 (And.intro in3 ?_)))))
  refine Exists.intro .float (Exists.intro L (Exists.intro xs (And.intro (Or.inr rfl) (And.intro h0 (And.intro in4 ?_)))))
  refine ic_Q hW (by omega) (by omega) (fun r h1 hq => ?_)
  obtain ⟨c, x, s', o', q1, rfl, q2, q3, q4, q5⟩ := hq
  exact t2 h1 c x s' o' q1 q2 q3 q4 q5
set_option maxRecDepth 40000 in
theorem lc_in (l : Launch) (L i : Nat) (xs : Nat → Int32) (hi : i + 6 ≤ L) (hL : L ≤ 3073) {h : hp_H} {s : St} (hS : lwS L xs h s) {k n : Nat} (hk : k + 1 ≤ 601024) (hn : n + 6 ≤ 7293000) {Q : hp_R → hp_H → Prop} {G : hp_G} (C : hp_ctx T_lw_in Y_la_law l false 601024 7293000 Q G)
    (nx : ∀ h' s', lwS L xs h' s' → hp_W G 1335 [(0, .ref 0), (1, .ref 1), (2, .ref 75), (3, .ref 89), (4, .int (nI i))] [] h' false (k + 1) (n + 6)) : hp_W G 686 [(0, .ref 0), (1, .ref 1), (2, .ref 75), (3, .ref 89), (4, .int (nI i))] [] h false k n := by
  obtain ⟨hO, h0, he, ⟨cd, hm⟩, ⟨ou, h89⟩⟩ := hS
  have in1 : vp_in (nI i + hp_c 1) L := by rw [show nI i + hp_c 1 = nI (i + 1) from nI_add i 1]; exact in_nI (by omega) (by omega)
  have in2 : vp_in (nI i + hp_c 2) L := by rw [show nI i + hp_c 2 = nI (i + 2) from nI_add i 2]; exact in_nI (by omega) (by omega)
  have in3 : vp_in (nI i + hp_c 3) L := by rw [show nI i + hp_c 3 = nI (i + 3) from nI_add i 3]; exact in_nI (by omega) (by omega)
  have in4 : vp_in (nI i + hp_c 4) L := by rw [show nI i + hp_c 4 = nI (i + 4) from nI_add i 4]; exact in_nI (by omega) (by omega)
  have in5 : vp_in (nI i + hp_c 5) L := by rw [show nI i + hp_c 5 = nI (i + 5) from nI_add i 5]; exact in_nI (by omega) (by omega)
  obtain ⟨N, hcl, hmo⟩ := pr_in l s hO (xs (nI i + hp_c 1).toNatClampNeg) (((xs (nI i + hp_c 2).toNatClampNeg).toInt64 <<< ((hp_c 32).toInt64 &&& 63)) ||| ((xs (nI i + hp_c 3).toNatClampNeg).toInt64 &&& 4294967295)) (((xs (nI i + hp_c 4).toNatClampNeg).toInt64 <<< ((hp_c 32).toInt64 &&& 63)) ||| ((xs (nI i + hp_c 5).toNatClampNeg).toInt64 &&& 4294967295))
  have hW := w_in l h (xs (nI i + hp_c 1).toNatClampNeg) (((xs (nI i + hp_c 2).toNatClampNeg).toInt64 <<< ((hp_c 32).toInt64 &&& 63)) ||| ((xs (nI i + hp_c 3).toNatClampNeg).toInt64 &&& 4294967295)) (((xs (nI i + hp_c 4).toNatClampNeg).toInt64 <<< ((hp_c 32).toInt64 &&& 63)) ||| ((xs (nI i + hp_c 5).toNatClampNeg).toInt64 &&& 4294967295)) ou he.1 _ (fun r h' => ∃ c x s' o', N c x s' ∧ r = .inl (some (.int (nI c))) ∧ esS h' s' ∧ h'[89]? = some (LA 1 o') ∧ (c = 0 → o' 0 = (fun v => if v = 0 then 0 else 1) x) ∧ hxW h h') (hcl h he) (fun r h' hq => wr_i (fun v => if v = 0 then 0 else 1) h89 (fun c x s' hN => (hmo c x s' hN).1) hq)
  have t2 : ∀ h1 c x s' o', N c x s' → esS h1 s' → h1[89]? = some (LA 1 o') → (c = 0 → o' 0 = (fun v => if v = 0 then 0 else 1) x) → hxW h h1 → hp_W G 743 [(0, .ref 0), (1, .ref 1), (2, .ref 75), (3, .ref 89), (4, .int (nI i)), (5, .int (nI c))] [] h1 false (k + 1) (n + 6) := by
    intro h1 c x s' o' hN he1 ho1 hx1 hxw
    obtain ⟨hc, hO1, hmo1⟩ := hmo c x s' hN
    have h01 := (hxw.2 0 (Or.inl rfl)).trans h0
    have hm1 := moS_hxW hm hxw
    have t3 : ∀ h2 x', (c = 0 → x' = x) → hxM h1 h2 → moS h2 s' (nI c) → hp_W G 799 [(0, .ref 0), (1, .ref 1), (2, .ref 75), (3, .ref 89), (4, .int (nI i)), (5, .int (nI c)), (6, .int x')] [] h2 false (k + 1) (n + 6) := by
      intro h2 x' hx2 hxm hm2
      have h892 := (hxm.2 89 (Or.inr (Nat.le_refl _))).trans ho1
      have fin := nx h2 s' ⟨hO1, (hxm.2 0 (Or.inl (by decide))).trans h01, esS_hxM he1 hxm, ⟨_, hm2⟩, ⟨_, h892⟩⟩
      obtain ⟨u2, hu2, hC2⟩ := id hm2
      refine hp_run_sound hp_co V_lw_in C (fun _ _ _ _ _ _ _ hq => hq) [1335] 30 _ _ _ _ _ _ _ ?_
      refine And.intro ⟨3, _, hC2.1, rfl⟩ ?_
      refine ic_P (c_mo_thrown l h2 s' (nI c) hm2) (by omega) (by omega) ?_
      refine And.intro (fun _ => ?_) (fun q => absurd rfl q)
      refine And.intro (fun q => ?_) (fun q => ?_)
      · exact hp_W_pick [0, 1, 2, 3, 4] fin
      · have c0 : c = 0 := (nI_eq (b := 0) (by omega) (by decide)).mp q
        refine Exists.intro 1 (Exists.intro o' (And.intro h892 (And.intro (in_nI (show 0 < 1 by decide) (by decide)) ?_)))
        have e1 : o' (hp_c 0).toNatClampNeg = (fun v => if v = 0 then 0 else 1) x := hx1 c0
        rw [e1, hx2 c0]
        refine And.intro (fun q => ?_) (fun q => ?_)
        · refine And.intro (fun _ => hp_W_pick [0, 1, 2, 3, 4] fin) (fun q2 => absurd ((lg_cmp_eq _ _).mpr (if_pos q)) q2)
        · refine And.intro (fun _ => hp_W_pick [0, 1, 2, 3, 4] fin) (fun q2 => absurd ((lg_cmp_eq _ _).mpr (if_neg q)) q2)
    obtain ⟨u1, hu1, hC1⟩ := id hm1
    refine hp_run_sound hp_co V_lw_in C (fun _ _ _ _ _ _ _ hq => hq) [799] 50 _ _ _ _ _ _ _ ?_
    refine Exists.intro .float (Exists.intro L (Exists.intro xs (And.intro (Or.inr rfl) (And.intro h01 (And.intro in1 ?_)))))
    refine Exists.intro .float (Exists.intro L (Exists.intro xs (And.intro (Or.inr rfl) (And.intro h01 (And.intro in2 ?_)))))
    refine Exists.intro .float (Exists.intro L (Exists.intro xs (And.intro (Or.inr rfl) (And.intro h01 (And.intro in3 ?_)))))
    refine Exists.intro .float (Exists.intro L (Exists.intro xs (And.intro (Or.inr rfl) (And.intro h01 (And.intro in4 ?_)))))
    refine Exists.intro .float (Exists.intro L (Exists.intro xs (And.intro (Or.inr rfl) (And.intro h01 (And.intro in5 ?_)))))
    refine And.intro ⟨3, _, hC1.1, rfl⟩ ?_
    refine ic_Q (hmo1 h1 cd hm1) (by omega) (by omega) (fun r h2 hq => ?_)
    obtain ⟨x', rfl, q1, q2, q3⟩ := hq
    exact t3 h2 x' q1 q2 q3
  refine hp_run_sound hp_co V_lw_in C (fun _ _ _ _ _ _ _ hq => hq) [743] 50 _ _ _ _ _ _ _ ?_
  refine Exists.intro .float (Exists.intro L (Exists.intro xs (And.intro (Or.inr rfl) (And.intro h0 (And.intro in1 ?_)))))
  refine Exists.intro .float (Exists.intro L (Exists.intro xs (And.intro (Or.inr rfl) (And.intro h0 (And.intro in2 ?_)))))
  refine Exists.intro .float (Exists.intro L (Exists.intro xs (And.intro (Or.inr rfl) (And.intro h0 (And.intro in3 ?_)))))
  refine Exists.intro .float (Exists.intro L (Exists.intro xs (And.intro (Or.inr rfl) (And.intro h0 (And.intro in4 ?_)))))
  refine Exists.intro .float (Exists.intro L (Exists.intro xs (And.intro (Or.inr rfl) (And.intro h0 (And.intro in5 ?_)))))
  refine ic_Q hW (by omega) (by omega) (fun r h1 hq => ?_)
  obtain ⟨c, x, s', o', q1, rfl, q2, q3, q4, q5⟩ := hq
  exact t2 h1 c x s' o' q1 q2 q3 q4 q5
set_option maxRecDepth 40000 in
theorem lc_area2 (l : Launch) (L i : Nat) (xs : Nat → Int32) (hi : i + 6 ≤ L) (hL : L ≤ 3073) {h : hp_H} {s : St} (hS : lwS L xs h s) {k n : Nat} (hk : k + 1 ≤ 601024) (hn : n + 6 ≤ 7293000) {Q : hp_R → hp_H → Prop} {G : hp_G} (C : hp_ctx T_lw_area2 Y_la_law l false 601024 7293000 Q G)
    (nx : ∀ h' s', lwS L xs h' s' → hp_W G 1335 [(0, .ref 0), (1, .ref 1), (2, .ref 75), (3, .ref 89), (4, .int (nI i))] [] h' false (k + 1) (n + 6)) : hp_W G 837 [(0, .ref 0), (1, .ref 1), (2, .ref 75), (3, .ref 89), (4, .int (nI i))] [] h false k n := by
  obtain ⟨hO, h0, he, ⟨cd, hm⟩, ⟨ou, h89⟩⟩ := hS
  have in1 : vp_in (nI i + hp_c 1) L := by rw [show nI i + hp_c 1 = nI (i + 1) from nI_add i 1]; exact in_nI (by omega) (by omega)
  have in2 : vp_in (nI i + hp_c 2) L := by rw [show nI i + hp_c 2 = nI (i + 2) from nI_add i 2]; exact in_nI (by omega) (by omega)
  have in3 : vp_in (nI i + hp_c 3) L := by rw [show nI i + hp_c 3 = nI (i + 3) from nI_add i 3]; exact in_nI (by omega) (by omega)
  have in4 : vp_in (nI i + hp_c 4) L := by rw [show nI i + hp_c 4 = nI (i + 4) from nI_add i 4]; exact in_nI (by omega) (by omega)
  have in5 : vp_in (nI i + hp_c 5) L := by rw [show nI i + hp_c 5 = nI (i + 5) from nI_add i 5]; exact in_nI (by omega) (by omega)
  obtain ⟨N, hcl, hmo⟩ := pr_area2 l s hO (xs (nI i + hp_c 1).toNatClampNeg) (xs (nI i + hp_c 2).toNatClampNeg)
  have hW := w_area2 l h (xs (nI i + hp_c 1).toNatClampNeg) (xs (nI i + hp_c 2).toNatClampNeg) ou he.1 _ (fun r h' => ∃ c x s' o', N c x s' ∧ r = .inl (some (.int (nI c))) ∧ esS h' s' ∧ h'[89]? = some (LA 1 o') ∧ (c = 0 → o' 0 = (fun v => v) x) ∧ hxW h h') (hcl h he) (fun r h' hq => wr_l (fun v => v) h89 (fun c x s' hN => (hmo c x s' hN).1) hq)
  have t2 : ∀ h1 c x s' o', N c x s' → esS h1 s' → h1[89]? = some (LA 1 o') → (c = 0 → o' 0 = (fun v => v) x) → hxW h h1 → hp_W G 856 [(0, .ref 0), (1, .ref 1), (2, .ref 75), (3, .ref 89), (4, .int (nI i)), (5, .int (nI c))] [] h1 false (k + 1) (n + 6) := by
    intro h1 c x s' o' hN he1 ho1 hx1 hxw
    obtain ⟨hc, hO1, hmo1⟩ := hmo c x s' hN
    have h01 := (hxw.2 0 (Or.inl rfl)).trans h0
    have hm1 := moS_hxW hm hxw
    have t3 : ∀ h2 x', (c = 0 → x' = x) → hxM h1 h2 → moS h2 s' (nI c) → hp_W G 874 [(0, .ref 0), (1, .ref 1), (2, .ref 75), (3, .ref 89), (4, .int (nI i)), (5, .int (nI c)), (6, .long x')] [] h2 false (k + 1) (n + 6) := by
      intro h2 x' hx2 hxm hm2
      have h892 := (hxm.2 89 (Or.inr (Nat.le_refl _))).trans ho1
      have fin := nx h2 s' ⟨hO1, (hxm.2 0 (Or.inl (by decide))).trans h01, esS_hxM he1 hxm, ⟨_, hm2⟩, ⟨_, h892⟩⟩
      obtain ⟨u2, hu2, hC2⟩ := id hm2
      refine hp_run_sound hp_co V_lw_area2 C (fun _ _ _ _ _ _ _ hq => hq) [1335] 30 _ _ _ _ _ _ _ ?_
      refine And.intro ⟨3, _, hC2.1, rfl⟩ ?_
      refine ic_P (c_mo_thrown l h2 s' (nI c) hm2) (by omega) (by omega) ?_
      refine And.intro (fun _ => ?_) (fun q => absurd rfl q)
      refine And.intro (fun q => ?_) (fun q => ?_)
      · exact hp_W_pick [0, 1, 2, 3, 4] fin
      · have c0 : c = 0 := (nI_eq (b := 0) (by omega) (by decide)).mp q
        refine Exists.intro 1 (Exists.intro o' (And.intro h892 (And.intro (in_nI (show 0 < 1 by decide) (by decide)) ?_)))
        have e1 : o' (hp_c 0).toNatClampNeg = (fun v => v) x := hx1 c0
        rw [e1, hx2 c0]
        exact And.intro (fun _ => hp_W_pick [0, 1, 2, 3, 4] fin) (fun q2 => absurd ((lg_cmp_eq _ _).mpr rfl) q2)
    obtain ⟨u1, hu1, hC1⟩ := id hm1
    refine hp_run_sound hp_co V_lw_area2 C (fun _ _ _ _ _ _ _ hq => hq) [874] 50 _ _ _ _ _ _ _ ?_
    refine Exists.intro .float (Exists.intro L (Exists.intro xs (And.intro (Or.inr rfl) (And.intro h01 (And.intro in1 ?_)))))
    refine Exists.intro .float (Exists.intro L (Exists.intro xs (And.intro (Or.inr rfl) (And.intro h01 (And.intro in2 ?_)))))
    refine And.intro ⟨3, _, hC1.1, rfl⟩ ?_
    refine ic_Q (hmo1 h1 cd hm1) (by omega) (by omega) (fun r h2 hq => ?_)
    obtain ⟨x', rfl, q1, q2, q3⟩ := hq
    exact t3 h2 x' q1 q2 q3
  refine hp_run_sound hp_co V_lw_area2 C (fun _ _ _ _ _ _ _ hq => hq) [856] 50 _ _ _ _ _ _ _ ?_
  refine Exists.intro .float (Exists.intro L (Exists.intro xs (And.intro (Or.inr rfl) (And.intro h0 (And.intro in1 ?_)))))
  refine Exists.intro .float (Exists.intro L (Exists.intro xs (And.intro (Or.inr rfl) (And.intro h0 (And.intro in2 ?_)))))
  refine ic_Q hW (by omega) (by omega) (fun r h1 hq => ?_)
  obtain ⟨c, x, s', o', q1, rfl, q2, q3, q4, q5⟩ := hq
  exact t2 h1 c x s' o' q1 q2 q3 q4 q5
set_option maxRecDepth 40000 in
theorem lc_touching (l : Launch) (L i : Nat) (xs : Nat → Int32) (hi : i + 6 ≤ L) (hL : L ≤ 3073) {h : hp_H} {s : St} (hS : lwS L xs h s) {k n : Nat} (hk : k + 1 ≤ 601024) (hn : n + 6 ≤ 7293000) {Q : hp_R → hp_H → Prop} {G : hp_G} (C : hp_ctx T_lw_touching Y_la_law l false 601024 7293000 Q G)
    (nx : ∀ h' s', lwS L xs h' s' → hp_W G 1335 [(0, .ref 0), (1, .ref 1), (2, .ref 75), (3, .ref 89), (4, .int (nI i))] [] h' false (k + 1) (n + 6)) : hp_W G 904 [(0, .ref 0), (1, .ref 1), (2, .ref 75), (3, .ref 89), (4, .int (nI i))] [] h false k n := by
  obtain ⟨hO, h0, he, ⟨cd, hm⟩, ⟨ou, h89⟩⟩ := hS
  have in1 : vp_in (nI i + hp_c 1) L := by rw [show nI i + hp_c 1 = nI (i + 1) from nI_add i 1]; exact in_nI (by omega) (by omega)
  have in2 : vp_in (nI i + hp_c 2) L := by rw [show nI i + hp_c 2 = nI (i + 2) from nI_add i 2]; exact in_nI (by omega) (by omega)
  have in3 : vp_in (nI i + hp_c 3) L := by rw [show nI i + hp_c 3 = nI (i + 3) from nI_add i 3]; exact in_nI (by omega) (by omega)
  have in4 : vp_in (nI i + hp_c 4) L := by rw [show nI i + hp_c 4 = nI (i + 4) from nI_add i 4]; exact in_nI (by omega) (by omega)
  have in5 : vp_in (nI i + hp_c 5) L := by rw [show nI i + hp_c 5 = nI (i + 5) from nI_add i 5]; exact in_nI (by omega) (by omega)
  obtain ⟨N, hcl, hmo⟩ := pr_touching l s hO (xs (nI i + hp_c 1).toNatClampNeg) (xs (nI i + hp_c 2).toNatClampNeg) (xs (nI i + hp_c 3).toNatClampNeg)
  have hW := w_touching l h (xs (nI i + hp_c 1).toNatClampNeg) (xs (nI i + hp_c 2).toNatClampNeg) (xs (nI i + hp_c 3).toNatClampNeg) ou he.1 _ (fun r h' => ∃ c x s' o', N c x s' ∧ r = .inl (some (.int (nI c))) ∧ esS h' s' ∧ h'[89]? = some (LA 1 o') ∧ (c = 0 → o' 0 = (fun v => v.toInt64) x) ∧ hxW h h') (hcl h he) (fun r h' hq => wr_i (fun v => v.toInt64) h89 (fun c x s' hN => (hmo c x s' hN).1) hq)
  have t2 : ∀ h1 c x s' o', N c x s' → esS h1 s' → h1[89]? = some (LA 1 o') → (c = 0 → o' 0 = (fun v => v.toInt64) x) → hxW h h1 → hp_W G 929 [(0, .ref 0), (1, .ref 1), (2, .ref 75), (3, .ref 89), (4, .int (nI i)), (5, .int (nI c))] [] h1 false (k + 1) (n + 6) := by
    intro h1 c x s' o' hN he1 ho1 hx1 hxw
    obtain ⟨hc, hO1, hmo1⟩ := hmo c x s' hN
    have h01 := (hxw.2 0 (Or.inl rfl)).trans h0
    have hm1 := moS_hxW hm hxw
    have t3 : ∀ h2 x', (c = 0 → x' = x) → hxM h1 h2 → moS h2 s' (nI c) → hp_W G 953 [(0, .ref 0), (1, .ref 1), (2, .ref 75), (3, .ref 89), (4, .int (nI i)), (5, .int (nI c)), (6, .int x')] [] h2 false (k + 1) (n + 6) := by
      intro h2 x' hx2 hxm hm2
      have h892 := (hxm.2 89 (Or.inr (Nat.le_refl _))).trans ho1
      have fin := nx h2 s' ⟨hO1, (hxm.2 0 (Or.inl (by decide))).trans h01, esS_hxM he1 hxm, ⟨_, hm2⟩, ⟨_, h892⟩⟩
      obtain ⟨u2, hu2, hC2⟩ := id hm2
      refine hp_run_sound hp_co V_lw_touching C (fun _ _ _ _ _ _ _ hq => hq) [1335] 30 _ _ _ _ _ _ _ ?_
      refine And.intro ⟨3, _, hC2.1, rfl⟩ ?_
      refine ic_P (c_mo_thrown l h2 s' (nI c) hm2) (by omega) (by omega) ?_
      refine And.intro (fun _ => ?_) (fun q => absurd rfl q)
      refine And.intro (fun q => ?_) (fun q => ?_)
      · exact hp_W_pick [0, 1, 2, 3, 4] fin
      · have c0 : c = 0 := (nI_eq (b := 0) (by omega) (by decide)).mp q
        refine Exists.intro 1 (Exists.intro o' (And.intro h892 (And.intro (in_nI (show 0 < 1 by decide) (by decide)) ?_)))
        have e1 : o' (hp_c 0).toNatClampNeg = (fun v => v.toInt64) x := hx1 c0
        rw [e1, hx2 c0]
        exact And.intro (fun _ => hp_W_pick [0, 1, 2, 3, 4] fin) (fun q2 => absurd ((lg_cmp_eq _ _).mpr rfl) q2)
    obtain ⟨u1, hu1, hC1⟩ := id hm1
    refine hp_run_sound hp_co V_lw_touching C (fun _ _ _ _ _ _ _ hq => hq) [953] 50 _ _ _ _ _ _ _ ?_
    refine Exists.intro .float (Exists.intro L (Exists.intro xs (And.intro (Or.inr rfl) (And.intro h01 (And.intro in1 ?_)))))
    refine Exists.intro .float (Exists.intro L (Exists.intro xs (And.intro (Or.inr rfl) (And.intro h01 (And.intro in2 ?_)))))
    refine Exists.intro .float (Exists.intro L (Exists.intro xs (And.intro (Or.inr rfl) (And.intro h01 (And.intro in3 ?_)))))
    refine And.intro ⟨3, _, hC1.1, rfl⟩ ?_
    refine ic_Q (hmo1 h1 cd hm1) (by omega) (by omega) (fun r h2 hq => ?_)
    obtain ⟨x', rfl, q1, q2, q3⟩ := hq
    exact t3 h2 x' q1 q2 q3
  refine hp_run_sound hp_co V_lw_touching C (fun _ _ _ _ _ _ _ hq => hq) [929] 50 _ _ _ _ _ _ _ ?_
  refine Exists.intro .float (Exists.intro L (Exists.intro xs (And.intro (Or.inr rfl) (And.intro h0 (And.intro in1 ?_)))))
  refine Exists.intro .float (Exists.intro L (Exists.intro xs (And.intro (Or.inr rfl) (And.intro h0 (And.intro in2 ?_)))))
  refine Exists.intro .float (Exists.intro L (Exists.intro xs (And.intro (Or.inr rfl) (And.intro h0 (And.intro in3 ?_)))))
  refine ic_Q hW (by omega) (by omega) (fun r h1 hq => ?_)
  obtain ⟨c, x, s', o', q1, rfl, q2, q3, q4, q5⟩ := hq
  exact t2 h1 c x s' o' q1 q2 q3 q4 q5
set_option maxRecDepth 40000 in
theorem lc_nets (l : Launch) (L i : Nat) (xs : Nat → Int32) (hi : i + 6 ≤ L) (hL : L ≤ 3073) {h : hp_H} {s : St} (hS : lwS L xs h s) {k n : Nat} (hk : k + 1 ≤ 601024) (hn : n + 6 ≤ 7293000) {Q : hp_R → hp_H → Prop} {G : hp_G} (C : hp_ctx T_lw_nets Y_la_law l false 601024 7293000 Q G)
    (nx : ∀ h' s', lwS L xs h' s' → hp_W G 1335 [(0, .ref 0), (1, .ref 1), (2, .ref 75), (3, .ref 89), (4, .int (nI i))] [] h' false (k + 1) (n + 6)) : hp_W G 984 [(0, .ref 0), (1, .ref 1), (2, .ref 75), (3, .ref 89), (4, .int (nI i))] [] h false k n := by
  obtain ⟨hO, h0, he, ⟨cd, hm⟩, ⟨ou, h89⟩⟩ := hS
  have in1 : vp_in (nI i + hp_c 1) L := by rw [show nI i + hp_c 1 = nI (i + 1) from nI_add i 1]; exact in_nI (by omega) (by omega)
  have in2 : vp_in (nI i + hp_c 2) L := by rw [show nI i + hp_c 2 = nI (i + 2) from nI_add i 2]; exact in_nI (by omega) (by omega)
  have in3 : vp_in (nI i + hp_c 3) L := by rw [show nI i + hp_c 3 = nI (i + 3) from nI_add i 3]; exact in_nI (by omega) (by omega)
  have in4 : vp_in (nI i + hp_c 4) L := by rw [show nI i + hp_c 4 = nI (i + 4) from nI_add i 4]; exact in_nI (by omega) (by omega)
  have in5 : vp_in (nI i + hp_c 5) L := by rw [show nI i + hp_c 5 = nI (i + 5) from nI_add i 5]; exact in_nI (by omega) (by omega)
  obtain ⟨N, hcl, hmo⟩ := pr_nets l s hO (xs (nI i + hp_c 1).toNatClampNeg)
  have hW := w_nets l h (xs (nI i + hp_c 1).toNatClampNeg) ou he.1 _ (fun r h' => ∃ c x s' o', N c x s' ∧ r = .inl (some (.int (nI c))) ∧ esS h' s' ∧ h'[89]? = some (LA 1 o') ∧ (c = 0 → o' 0 = (fun v => v.toInt64) x) ∧ hxW h h') (hcl h he) (fun r h' hq => wr_i (fun v => v.toInt64) h89 (fun c x s' hN => (hmo c x s' hN).1) hq)
  have t2 : ∀ h1 c x s' o', N c x s' → esS h1 s' → h1[89]? = some (LA 1 o') → (c = 0 → o' 0 = (fun v => v.toInt64) x) → hxW h h1 → hp_W G 997 [(0, .ref 0), (1, .ref 1), (2, .ref 75), (3, .ref 89), (4, .int (nI i)), (5, .int (nI c))] [] h1 false (k + 1) (n + 6) := by
    intro h1 c x s' o' hN he1 ho1 hx1 hxw
    obtain ⟨hc, hO1, hmo1⟩ := hmo c x s' hN
    have h01 := (hxw.2 0 (Or.inl rfl)).trans h0
    have hm1 := moS_hxW hm hxw
    have t3 : ∀ h2 x', (c = 0 → x' = x) → hxM h1 h2 → moS h2 s' (nI c) → hp_W G 1009 [(0, .ref 0), (1, .ref 1), (2, .ref 75), (3, .ref 89), (4, .int (nI i)), (5, .int (nI c)), (6, .int x')] [] h2 false (k + 1) (n + 6) := by
      intro h2 x' hx2 hxm hm2
      have h892 := (hxm.2 89 (Or.inr (Nat.le_refl _))).trans ho1
      have fin := nx h2 s' ⟨hO1, (hxm.2 0 (Or.inl (by decide))).trans h01, esS_hxM he1 hxm, ⟨_, hm2⟩, ⟨_, h892⟩⟩
      obtain ⟨u2, hu2, hC2⟩ := id hm2
      refine hp_run_sound hp_co V_lw_nets C (fun _ _ _ _ _ _ _ hq => hq) [1335] 30 _ _ _ _ _ _ _ ?_
      refine And.intro ⟨3, _, hC2.1, rfl⟩ ?_
      refine ic_P (c_mo_thrown l h2 s' (nI c) hm2) (by omega) (by omega) ?_
      refine And.intro (fun _ => ?_) (fun q => absurd rfl q)
      refine And.intro (fun q => ?_) (fun q => ?_)
      · exact hp_W_pick [0, 1, 2, 3, 4] fin
      · have c0 : c = 0 := (nI_eq (b := 0) (by omega) (by decide)).mp q
        refine Exists.intro 1 (Exists.intro o' (And.intro h892 (And.intro (in_nI (show 0 < 1 by decide) (by decide)) ?_)))
        have e1 : o' (hp_c 0).toNatClampNeg = (fun v => v.toInt64) x := hx1 c0
        rw [e1, hx2 c0]
        exact And.intro (fun _ => hp_W_pick [0, 1, 2, 3, 4] fin) (fun q2 => absurd ((lg_cmp_eq _ _).mpr rfl) q2)
    obtain ⟨u1, hu1, hC1⟩ := id hm1
    refine hp_run_sound hp_co V_lw_nets C (fun _ _ _ _ _ _ _ hq => hq) [1009] 50 _ _ _ _ _ _ _ ?_
    refine Exists.intro .float (Exists.intro L (Exists.intro xs (And.intro (Or.inr rfl) (And.intro h01 (And.intro in1 ?_)))))
    refine And.intro ⟨3, _, hC1.1, rfl⟩ ?_
    refine ic_Q (hmo1 h1 cd hm1) (by omega) (by omega) (fun r h2 hq => ?_)
    obtain ⟨x', rfl, q1, q2, q3⟩ := hq
    exact t3 h2 x' q1 q2 q3
  refine hp_run_sound hp_co V_lw_nets C (fun _ _ _ _ _ _ _ hq => hq) [997] 50 _ _ _ _ _ _ _ ?_
  refine Exists.intro .float (Exists.intro L (Exists.intro xs (And.intro (Or.inr rfl) (And.intro h0 (And.intro in1 ?_)))))
  refine ic_Q hW (by omega) (by omega) (fun r h1 hq => ?_)
  obtain ⟨c, x, s', o', q1, rfl, q2, q3, q4, q5⟩ := hq
  exact t2 h1 c x s' o' q1 q2 q3 q4 q5
set_option maxRecDepth 40000 in
theorem lc_netOf (l : Launch) (L i : Nat) (xs : Nat → Int32) (hi : i + 6 ≤ L) (hL : L ≤ 3073) {h : hp_H} {s : St} (hS : lwS L xs h s) {k n : Nat} (hk : k + 1 ≤ 601024) (hn : n + 6 ≤ 7293000) {Q : hp_R → hp_H → Prop} {G : hp_G} (C : hp_ctx T_lw_netOf Y_la_law l false 601024 7293000 Q G)
    (nx : ∀ h' s', lwS L xs h' s' → hp_W G 1335 [(0, .ref 0), (1, .ref 1), (2, .ref 75), (3, .ref 89), (4, .int (nI i))] [] h' false (k + 1) (n + 6)) : hp_W G 1040 [(0, .ref 0), (1, .ref 1), (2, .ref 75), (3, .ref 89), (4, .int (nI i))] [] h false k n := by
  obtain ⟨hO, h0, he, ⟨cd, hm⟩, ⟨ou, h89⟩⟩ := hS
  have in1 : vp_in (nI i + hp_c 1) L := by rw [show nI i + hp_c 1 = nI (i + 1) from nI_add i 1]; exact in_nI (by omega) (by omega)
  have in2 : vp_in (nI i + hp_c 2) L := by rw [show nI i + hp_c 2 = nI (i + 2) from nI_add i 2]; exact in_nI (by omega) (by omega)
  have in3 : vp_in (nI i + hp_c 3) L := by rw [show nI i + hp_c 3 = nI (i + 3) from nI_add i 3]; exact in_nI (by omega) (by omega)
  have in4 : vp_in (nI i + hp_c 4) L := by rw [show nI i + hp_c 4 = nI (i + 4) from nI_add i 4]; exact in_nI (by omega) (by omega)
  have in5 : vp_in (nI i + hp_c 5) L := by rw [show nI i + hp_c 5 = nI (i + 5) from nI_add i 5]; exact in_nI (by omega) (by omega)
  obtain ⟨N, hcl, hmo⟩ := pr_netOf l s hO (xs (nI i + hp_c 1).toNatClampNeg) (xs (nI i + hp_c 2).toNatClampNeg)
  have hW := w_netOf l h (xs (nI i + hp_c 1).toNatClampNeg) (xs (nI i + hp_c 2).toNatClampNeg) ou he.1 _ (fun r h' => ∃ c x s' o', N c x s' ∧ r = .inl (some (.int (nI c))) ∧ esS h' s' ∧ h'[89]? = some (LA 1 o') ∧ (c = 0 → o' 0 = (fun v => v.toInt64) x) ∧ hxW h h') (hcl h he) (fun r h' hq => wr_i (fun v => v.toInt64) h89 (fun c x s' hN => (hmo c x s' hN).1) hq)
  have t2 : ∀ h1 c x s' o', N c x s' → esS h1 s' → h1[89]? = some (LA 1 o') → (c = 0 → o' 0 = (fun v => v.toInt64) x) → hxW h h1 → hp_W G 1059 [(0, .ref 0), (1, .ref 1), (2, .ref 75), (3, .ref 89), (4, .int (nI i)), (5, .int (nI c))] [] h1 false (k + 1) (n + 6) := by
    intro h1 c x s' o' hN he1 ho1 hx1 hxw
    obtain ⟨hc, hO1, hmo1⟩ := hmo c x s' hN
    have h01 := (hxw.2 0 (Or.inl rfl)).trans h0
    have hm1 := moS_hxW hm hxw
    have t3 : ∀ h2 x', (c = 0 → x' = x) → hxM h1 h2 → moS h2 s' (nI c) → hp_W G 1077 [(0, .ref 0), (1, .ref 1), (2, .ref 75), (3, .ref 89), (4, .int (nI i)), (5, .int (nI c)), (6, .int x')] [] h2 false (k + 1) (n + 6) := by
      intro h2 x' hx2 hxm hm2
      have h892 := (hxm.2 89 (Or.inr (Nat.le_refl _))).trans ho1
      have fin := nx h2 s' ⟨hO1, (hxm.2 0 (Or.inl (by decide))).trans h01, esS_hxM he1 hxm, ⟨_, hm2⟩, ⟨_, h892⟩⟩
      obtain ⟨u2, hu2, hC2⟩ := id hm2
      refine hp_run_sound hp_co V_lw_netOf C (fun _ _ _ _ _ _ _ hq => hq) [1335] 30 _ _ _ _ _ _ _ ?_
      refine And.intro ⟨3, _, hC2.1, rfl⟩ ?_
      refine ic_P (c_mo_thrown l h2 s' (nI c) hm2) (by omega) (by omega) ?_
      refine And.intro (fun _ => ?_) (fun q => absurd rfl q)
      refine And.intro (fun q => ?_) (fun q => ?_)
      · exact hp_W_pick [0, 1, 2, 3, 4] fin
      · have c0 : c = 0 := (nI_eq (b := 0) (by omega) (by decide)).mp q
        refine Exists.intro 1 (Exists.intro o' (And.intro h892 (And.intro (in_nI (show 0 < 1 by decide) (by decide)) ?_)))
        have e1 : o' (hp_c 0).toNatClampNeg = (fun v => v.toInt64) x := hx1 c0
        rw [e1, hx2 c0]
        exact And.intro (fun _ => hp_W_pick [0, 1, 2, 3, 4] fin) (fun q2 => absurd ((lg_cmp_eq _ _).mpr rfl) q2)
    obtain ⟨u1, hu1, hC1⟩ := id hm1
    refine hp_run_sound hp_co V_lw_netOf C (fun _ _ _ _ _ _ _ hq => hq) [1077] 50 _ _ _ _ _ _ _ ?_
    refine Exists.intro .float (Exists.intro L (Exists.intro xs (And.intro (Or.inr rfl) (And.intro h01 (And.intro in1 ?_)))))
    refine Exists.intro .float (Exists.intro L (Exists.intro xs (And.intro (Or.inr rfl) (And.intro h01 (And.intro in2 ?_)))))
    refine And.intro ⟨3, _, hC1.1, rfl⟩ ?_
    refine ic_Q (hmo1 h1 cd hm1) (by omega) (by omega) (fun r h2 hq => ?_)
    obtain ⟨x', rfl, q1, q2, q3⟩ := hq
    exact t3 h2 x' q1 q2 q3
  refine hp_run_sound hp_co V_lw_netOf C (fun _ _ _ _ _ _ _ hq => hq) [1059] 50 _ _ _ _ _ _ _ ?_
  refine Exists.intro .float (Exists.intro L (Exists.intro xs (And.intro (Or.inr rfl) (And.intro h0 (And.intro in1 ?_)))))
  refine Exists.intro .float (Exists.intro L (Exists.intro xs (And.intro (Or.inr rfl) (And.intro h0 (And.intro in2 ?_)))))
  refine ic_Q hW (by omega) (by omega) (fun r h1 hq => ?_)
  obtain ⟨c, x, s', o', q1, rfl, q2, q3, q4, q5⟩ := hq
  exact t2 h1 c x s' o' q1 q2 q3 q4 q5
set_option maxRecDepth 40000 in
theorem lc_strips (l : Launch) (L i : Nat) (xs : Nat → Int32) (hi : i + 6 ≤ L) (hL : L ≤ 3073) {h : hp_H} {s : St} (hS : lwS L xs h s) {k n : Nat} (hk : k + 1 ≤ 601024) (hn : n + 6 ≤ 7293000) {Q : hp_R → hp_H → Prop} {G : hp_G} (C : hp_ctx T_lw_strips Y_la_law l false 601024 7293000 Q G)
    (nx : ∀ h' s', lwS L xs h' s' → hp_W G 1335 [(0, .ref 0), (1, .ref 1), (2, .ref 75), (3, .ref 89), (4, .int (nI i))] [] h' false (k + 1) (n + 6)) : hp_W G 1108 [(0, .ref 0), (1, .ref 1), (2, .ref 75), (3, .ref 89), (4, .int (nI i))] [] h false k n := by
  obtain ⟨hO, h0, he, ⟨cd, hm⟩, ⟨ou, h89⟩⟩ := hS
  have in1 : vp_in (nI i + hp_c 1) L := by rw [show nI i + hp_c 1 = nI (i + 1) from nI_add i 1]; exact in_nI (by omega) (by omega)
  have in2 : vp_in (nI i + hp_c 2) L := by rw [show nI i + hp_c 2 = nI (i + 2) from nI_add i 2]; exact in_nI (by omega) (by omega)
  have in3 : vp_in (nI i + hp_c 3) L := by rw [show nI i + hp_c 3 = nI (i + 3) from nI_add i 3]; exact in_nI (by omega) (by omega)
  have in4 : vp_in (nI i + hp_c 4) L := by rw [show nI i + hp_c 4 = nI (i + 4) from nI_add i 4]; exact in_nI (by omega) (by omega)
  have in5 : vp_in (nI i + hp_c 5) L := by rw [show nI i + hp_c 5 = nI (i + 5) from nI_add i 5]; exact in_nI (by omega) (by omega)
  obtain ⟨N, hcl, hmo⟩ := pr_strips l s hO (xs (nI i + hp_c 1).toNatClampNeg)
  have hW := w_strips l h (xs (nI i + hp_c 1).toNatClampNeg) ou he.1 _ (fun r h' => ∃ c x s' o', N c x s' ∧ r = .inl (some (.int (nI c))) ∧ esS h' s' ∧ h'[89]? = some (LA 1 o') ∧ (c = 0 → o' 0 = (fun v => v.toInt64) x) ∧ hxW h h') (hcl h he) (fun r h' hq => wr_i (fun v => v.toInt64) h89 (fun c x s' hN => (hmo c x s' hN).1) hq)
  have t2 : ∀ h1 c x s' o', N c x s' → esS h1 s' → h1[89]? = some (LA 1 o') → (c = 0 → o' 0 = (fun v => v.toInt64) x) → hxW h h1 → hp_W G 1121 [(0, .ref 0), (1, .ref 1), (2, .ref 75), (3, .ref 89), (4, .int (nI i)), (5, .int (nI c))] [] h1 false (k + 1) (n + 6) := by
    intro h1 c x s' o' hN he1 ho1 hx1 hxw
    obtain ⟨hc, hO1, hmo1⟩ := hmo c x s' hN
    have h01 := (hxw.2 0 (Or.inl rfl)).trans h0
    have hm1 := moS_hxW hm hxw
    have t3 : ∀ h2 x', (c = 0 → x' = x) → hxM h1 h2 → moS h2 s' (nI c) → hp_W G 1133 [(0, .ref 0), (1, .ref 1), (2, .ref 75), (3, .ref 89), (4, .int (nI i)), (5, .int (nI c)), (6, .int x')] [] h2 false (k + 1) (n + 6) := by
      intro h2 x' hx2 hxm hm2
      have h892 := (hxm.2 89 (Or.inr (Nat.le_refl _))).trans ho1
      have fin := nx h2 s' ⟨hO1, (hxm.2 0 (Or.inl (by decide))).trans h01, esS_hxM he1 hxm, ⟨_, hm2⟩, ⟨_, h892⟩⟩
      obtain ⟨u2, hu2, hC2⟩ := id hm2
      refine hp_run_sound hp_co V_lw_strips C (fun _ _ _ _ _ _ _ hq => hq) [1335] 30 _ _ _ _ _ _ _ ?_
      refine And.intro ⟨3, _, hC2.1, rfl⟩ ?_
      refine ic_P (c_mo_thrown l h2 s' (nI c) hm2) (by omega) (by omega) ?_
      refine And.intro (fun _ => ?_) (fun q => absurd rfl q)
      refine And.intro (fun q => ?_) (fun q => ?_)
      · exact hp_W_pick [0, 1, 2, 3, 4] fin
      · have c0 : c = 0 := (nI_eq (b := 0) (by omega) (by decide)).mp q
        refine Exists.intro 1 (Exists.intro o' (And.intro h892 (And.intro (in_nI (show 0 < 1 by decide) (by decide)) ?_)))
        have e1 : o' (hp_c 0).toNatClampNeg = (fun v => v.toInt64) x := hx1 c0
        rw [e1, hx2 c0]
        exact And.intro (fun _ => hp_W_pick [0, 1, 2, 3, 4] fin) (fun q2 => absurd ((lg_cmp_eq _ _).mpr rfl) q2)
    obtain ⟨u1, hu1, hC1⟩ := id hm1
    refine hp_run_sound hp_co V_lw_strips C (fun _ _ _ _ _ _ _ hq => hq) [1133] 50 _ _ _ _ _ _ _ ?_
    refine Exists.intro .float (Exists.intro L (Exists.intro xs (And.intro (Or.inr rfl) (And.intro h01 (And.intro in1 ?_)))))
    refine And.intro ⟨3, _, hC1.1, rfl⟩ ?_
    refine ic_Q (hmo1 h1 cd hm1) (by omega) (by omega) (fun r h2 hq => ?_)
    obtain ⟨x', rfl, q1, q2, q3⟩ := hq
    exact t3 h2 x' q1 q2 q3
  refine hp_run_sound hp_co V_lw_strips C (fun _ _ _ _ _ _ _ hq => hq) [1121] 50 _ _ _ _ _ _ _ ?_
  refine Exists.intro .float (Exists.intro L (Exists.intro xs (And.intro (Or.inr rfl) (And.intro h0 (And.intro in1 ?_)))))
  refine ic_Q hW (by omega) (by omega) (fun r h1 hq => ?_)
  obtain ⟨c, x, s', o', q1, rfl, q2, q3, q4, q5⟩ := hq
  exact t2 h1 c x s' o' q1 q2 q3 q4 q5
set_option maxRecDepth 40000 in
theorem lc_edge (l : Launch) (L i : Nat) (xs : Nat → Int32) (hi : i + 6 ≤ L) (hL : L ≤ 3073) {h : hp_H} {s : St} (hS : lwS L xs h s) {k n : Nat} (hk : k + 1 ≤ 601024) (hn : n + 6 ≤ 7293000) {Q : hp_R → hp_H → Prop} {G : hp_G} (C : hp_ctx T_lw_edge Y_la_law l false 601024 7293000 Q G)
    (nx : ∀ h' s', lwS L xs h' s' → hp_W G 1335 [(0, .ref 0), (1, .ref 1), (2, .ref 75), (3, .ref 89), (4, .int (nI i))] [] h' false (k + 1) (n + 6)) : hp_W G 1164 [(0, .ref 0), (1, .ref 1), (2, .ref 75), (3, .ref 89), (4, .int (nI i))] [] h false k n := by
  obtain ⟨hO, h0, he, ⟨cd, hm⟩, ⟨ou, h89⟩⟩ := hS
  have in1 : vp_in (nI i + hp_c 1) L := by rw [show nI i + hp_c 1 = nI (i + 1) from nI_add i 1]; exact in_nI (by omega) (by omega)
  have in2 : vp_in (nI i + hp_c 2) L := by rw [show nI i + hp_c 2 = nI (i + 2) from nI_add i 2]; exact in_nI (by omega) (by omega)
  have in3 : vp_in (nI i + hp_c 3) L := by rw [show nI i + hp_c 3 = nI (i + 3) from nI_add i 3]; exact in_nI (by omega) (by omega)
  have in4 : vp_in (nI i + hp_c 4) L := by rw [show nI i + hp_c 4 = nI (i + 4) from nI_add i 4]; exact in_nI (by omega) (by omega)
  have in5 : vp_in (nI i + hp_c 5) L := by rw [show nI i + hp_c 5 = nI (i + 5) from nI_add i 5]; exact in_nI (by omega) (by omega)
  obtain ⟨N, hcl, hmo⟩ := pr_edge l s hO (xs (nI i + hp_c 1).toNatClampNeg) (xs (nI i + hp_c 2).toNatClampNeg) (xs (nI i + hp_c 3).toNatClampNeg)
  have hW := w_edge l h (xs (nI i + hp_c 1).toNatClampNeg) (xs (nI i + hp_c 2).toNatClampNeg) (xs (nI i + hp_c 3).toNatClampNeg) ou he.1 _ (fun r h' => ∃ c x s' o', N c x s' ∧ r = .inl (some (.int (nI c))) ∧ esS h' s' ∧ h'[89]? = some (LA 1 o') ∧ (c = 0 → o' 0 = (fun v => v.toInt64) x) ∧ hxW h h') (hcl h he) (fun r h' hq => wr_i (fun v => v.toInt64) h89 (fun c x s' hN => (hmo c x s' hN).1) hq)
  have t2 : ∀ h1 c x s' o', N c x s' → esS h1 s' → h1[89]? = some (LA 1 o') → (c = 0 → o' 0 = (fun v => v.toInt64) x) → hxW h h1 → hp_W G 1189 [(0, .ref 0), (1, .ref 1), (2, .ref 75), (3, .ref 89), (4, .int (nI i)), (5, .int (nI c))] [] h1 false (k + 1) (n + 6) := by
    intro h1 c x s' o' hN he1 ho1 hx1 hxw
    obtain ⟨hc, hO1, hmo1⟩ := hmo c x s' hN
    have h01 := (hxw.2 0 (Or.inl rfl)).trans h0
    have hm1 := moS_hxW hm hxw
    have t3 : ∀ h2 x', (c = 0 → x' = x) → hxM h1 h2 → moS h2 s' (nI c) → hp_W G 1213 [(0, .ref 0), (1, .ref 1), (2, .ref 75), (3, .ref 89), (4, .int (nI i)), (5, .int (nI c)), (6, .int x')] [] h2 false (k + 1) (n + 6) := by
      intro h2 x' hx2 hxm hm2
      have h892 := (hxm.2 89 (Or.inr (Nat.le_refl _))).trans ho1
      have fin := nx h2 s' ⟨hO1, (hxm.2 0 (Or.inl (by decide))).trans h01, esS_hxM he1 hxm, ⟨_, hm2⟩, ⟨_, h892⟩⟩
      obtain ⟨u2, hu2, hC2⟩ := id hm2
      refine hp_run_sound hp_co V_lw_edge C (fun _ _ _ _ _ _ _ hq => hq) [1335] 30 _ _ _ _ _ _ _ ?_
      refine And.intro ⟨3, _, hC2.1, rfl⟩ ?_
      refine ic_P (c_mo_thrown l h2 s' (nI c) hm2) (by omega) (by omega) ?_
      refine And.intro (fun _ => ?_) (fun q => absurd rfl q)
      refine And.intro (fun q => ?_) (fun q => ?_)
      · exact hp_W_pick [0, 1, 2, 3, 4] fin
      · have c0 : c = 0 := (nI_eq (b := 0) (by omega) (by decide)).mp q
        refine Exists.intro 1 (Exists.intro o' (And.intro h892 (And.intro (in_nI (show 0 < 1 by decide) (by decide)) ?_)))
        have e1 : o' (hp_c 0).toNatClampNeg = (fun v => v.toInt64) x := hx1 c0
        rw [e1, hx2 c0]
        exact And.intro (fun _ => hp_W_pick [0, 1, 2, 3, 4] fin) (fun q2 => absurd ((lg_cmp_eq _ _).mpr rfl) q2)
    obtain ⟨u1, hu1, hC1⟩ := id hm1
    refine hp_run_sound hp_co V_lw_edge C (fun _ _ _ _ _ _ _ hq => hq) [1213] 50 _ _ _ _ _ _ _ ?_
    refine Exists.intro .float (Exists.intro L (Exists.intro xs (And.intro (Or.inr rfl) (And.intro h01 (And.intro in1 ?_)))))
    refine Exists.intro .float (Exists.intro L (Exists.intro xs (And.intro (Or.inr rfl) (And.intro h01 (And.intro in2 ?_)))))
    refine Exists.intro .float (Exists.intro L (Exists.intro xs (And.intro (Or.inr rfl) (And.intro h01 (And.intro in3 ?_)))))
    refine And.intro ⟨3, _, hC1.1, rfl⟩ ?_
    refine ic_Q (hmo1 h1 cd hm1) (by omega) (by omega) (fun r h2 hq => ?_)
    obtain ⟨x', rfl, q1, q2, q3⟩ := hq
    exact t3 h2 x' q1 q2 q3
  refine hp_run_sound hp_co V_lw_edge C (fun _ _ _ _ _ _ _ hq => hq) [1189] 50 _ _ _ _ _ _ _ ?_
  refine Exists.intro .float (Exists.intro L (Exists.intro xs (And.intro (Or.inr rfl) (And.intro h0 (And.intro in1 ?_)))))
  refine Exists.intro .float (Exists.intro L (Exists.intro xs (And.intro (Or.inr rfl) (And.intro h0 (And.intro in2 ?_)))))
  refine Exists.intro .float (Exists.intro L (Exists.intro xs (And.intro (Or.inr rfl) (And.intro h0 (And.intro in3 ?_)))))
  refine ic_Q hW (by omega) (by omega) (fun r h1 hq => ?_)
  obtain ⟨c, x, s', o', q1, rfl, q2, q3, q4, q5⟩ := hq
  exact t2 h1 c x s' o' q1 q2 q3 q4 q5
set_option maxRecDepth 40000 in
theorem lc_trapezoid (l : Launch) (L i : Nat) (xs : Nat → Int32) (hi : i + 6 ≤ L) (hL : L ≤ 3073) {h : hp_H} {s : St} (hS : lwS L xs h s) {k n : Nat} (hk : k + 1 ≤ 601024) (hn : n + 6 ≤ 7293000) {Q : hp_R → hp_H → Prop} {G : hp_G} (C : hp_ctx T_lw_trapezoid Y_la_law l false 601024 7293000 Q G)
    (nx : ∀ h' s', lwS L xs h' s' → hp_W G 1335 [(0, .ref 0), (1, .ref 1), (2, .ref 75), (3, .ref 89), (4, .int (nI i))] [] h' false (k + 1) (n + 6)) : hp_W G 1244 [(0, .ref 0), (1, .ref 1), (2, .ref 75), (3, .ref 89), (4, .int (nI i))] [] h false k n := by
  obtain ⟨hO, h0, he, ⟨cd, hm⟩, ⟨ou, h89⟩⟩ := hS
  have in1 : vp_in (nI i + hp_c 1) L := by rw [show nI i + hp_c 1 = nI (i + 1) from nI_add i 1]; exact in_nI (by omega) (by omega)
  have in2 : vp_in (nI i + hp_c 2) L := by rw [show nI i + hp_c 2 = nI (i + 2) from nI_add i 2]; exact in_nI (by omega) (by omega)
  have in3 : vp_in (nI i + hp_c 3) L := by rw [show nI i + hp_c 3 = nI (i + 3) from nI_add i 3]; exact in_nI (by omega) (by omega)
  have in4 : vp_in (nI i + hp_c 4) L := by rw [show nI i + hp_c 4 = nI (i + 4) from nI_add i 4]; exact in_nI (by omega) (by omega)
  have in5 : vp_in (nI i + hp_c 5) L := by rw [show nI i + hp_c 5 = nI (i + 5) from nI_add i 5]; exact in_nI (by omega) (by omega)
  obtain ⟨N, hcl, hmo⟩ := pr_trapezoid l s hO (xs (nI i + hp_c 1).toNatClampNeg) (xs (nI i + hp_c 2).toNatClampNeg) (xs (nI i + hp_c 3).toNatClampNeg)
  have hW := w_trapezoid l h (xs (nI i + hp_c 1).toNatClampNeg) (xs (nI i + hp_c 2).toNatClampNeg) (xs (nI i + hp_c 3).toNatClampNeg) ou he.1 _ (fun r h' => ∃ c x s' o', N c x s' ∧ r = .inl (some (.int (nI c))) ∧ esS h' s' ∧ h'[89]? = some (LA 1 o') ∧ (c = 0 → o' 0 = (fun v => v.toInt64) x) ∧ hxW h h') (hcl h he) (fun r h' hq => wr_i (fun v => v.toInt64) h89 (fun c x s' hN => (hmo c x s' hN).1) hq)
  have t2 : ∀ h1 c x s' o', N c x s' → esS h1 s' → h1[89]? = some (LA 1 o') → (c = 0 → o' 0 = (fun v => v.toInt64) x) → hxW h h1 → hp_W G 1269 [(0, .ref 0), (1, .ref 1), (2, .ref 75), (3, .ref 89), (4, .int (nI i)), (5, .int (nI c))] [] h1 false (k + 1) (n + 6) := by
    intro h1 c x s' o' hN he1 ho1 hx1 hxw
    obtain ⟨hc, hO1, hmo1⟩ := hmo c x s' hN
    have h01 := (hxw.2 0 (Or.inl rfl)).trans h0
    have hm1 := moS_hxW hm hxw
    have t3 : ∀ h2 x', (c = 0 → x' = x) → hxM h1 h2 → moS h2 s' (nI c) → hp_W G 1293 [(0, .ref 0), (1, .ref 1), (2, .ref 75), (3, .ref 89), (4, .int (nI i)), (5, .int (nI c)), (6, .int x')] [] h2 false (k + 1) (n + 6) := by
      intro h2 x' hx2 hxm hm2
      have h892 := (hxm.2 89 (Or.inr (Nat.le_refl _))).trans ho1
      have fin := nx h2 s' ⟨hO1, (hxm.2 0 (Or.inl (by decide))).trans h01, esS_hxM he1 hxm, ⟨_, hm2⟩, ⟨_, h892⟩⟩
      obtain ⟨u2, hu2, hC2⟩ := id hm2
      refine hp_run_sound hp_co V_lw_trapezoid C (fun _ _ _ _ _ _ _ hq => hq) [1335] 30 _ _ _ _ _ _ _ ?_
      refine And.intro ⟨3, _, hC2.1, rfl⟩ ?_
      refine ic_P (c_mo_thrown l h2 s' (nI c) hm2) (by omega) (by omega) ?_
      refine And.intro (fun _ => ?_) (fun q => absurd rfl q)
      refine And.intro (fun q => ?_) (fun q => ?_)
      · exact hp_W_pick [0, 1, 2, 3, 4] fin
      · have c0 : c = 0 := (nI_eq (b := 0) (by omega) (by decide)).mp q
        refine Exists.intro 1 (Exists.intro o' (And.intro h892 (And.intro (in_nI (show 0 < 1 by decide) (by decide)) ?_)))
        have e1 : o' (hp_c 0).toNatClampNeg = (fun v => v.toInt64) x := hx1 c0
        rw [e1, hx2 c0]
        exact And.intro (fun _ => hp_W_pick [0, 1, 2, 3, 4] fin) (fun q2 => absurd ((lg_cmp_eq _ _).mpr rfl) q2)
    obtain ⟨u1, hu1, hC1⟩ := id hm1
    refine hp_run_sound hp_co V_lw_trapezoid C (fun _ _ _ _ _ _ _ hq => hq) [1293] 50 _ _ _ _ _ _ _ ?_
    refine Exists.intro .float (Exists.intro L (Exists.intro xs (And.intro (Or.inr rfl) (And.intro h01 (And.intro in1 ?_)))))
    refine Exists.intro .float (Exists.intro L (Exists.intro xs (And.intro (Or.inr rfl) (And.intro h01 (And.intro in2 ?_)))))
    refine Exists.intro .float (Exists.intro L (Exists.intro xs (And.intro (Or.inr rfl) (And.intro h01 (And.intro in3 ?_)))))
    refine And.intro ⟨3, _, hC1.1, rfl⟩ ?_
    refine ic_Q (hmo1 h1 cd hm1) (by omega) (by omega) (fun r h2 hq => ?_)
    obtain ⟨x', rfl, q1, q2, q3⟩ := hq
    exact t3 h2 x' q1 q2 q3
  refine hp_run_sound hp_co V_lw_trapezoid C (fun _ _ _ _ _ _ _ hq => hq) [1269] 50 _ _ _ _ _ _ _ ?_
  refine Exists.intro .float (Exists.intro L (Exists.intro xs (And.intro (Or.inr rfl) (And.intro h0 (And.intro in1 ?_)))))
  refine Exists.intro .float (Exists.intro L (Exists.intro xs (And.intro (Or.inr rfl) (And.intro h0 (And.intro in2 ?_)))))
  refine Exists.intro .float (Exists.intro L (Exists.intro xs (And.intro (Or.inr rfl) (And.intro h0 (And.intro in3 ?_)))))
  refine ic_Q hW (by omega) (by omega) (fun r h1 hq => ?_)
  obtain ⟨c, x, s', o', q1, rfl, q2, q3, q4, q5⟩ := hq
  exact t2 h1 c x s' o' q1 q2 q3 q4 q5
