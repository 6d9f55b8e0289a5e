/-! shapes, at, touching, nets, netOf -/
/-- a layer's area, and its shapes found: what shapes, at, nets and netOf begin with -/
theorem fS_all {f F : Nat → Int64} {h : hp_H} {g o : Nat → Nat} (hf : fS f h g o) (hr : rwN f = rwN F) {fi : Nat → Bool} (hF : isF F 0 fi) : cn (hdb g) (rs f 64) = cn fi 4096 := by
  obtain ⟨s, r, a1, a2, a3, a4, a5, a6, a7, a8, a9, a10⟩ := hf
  exact head_all a8 a9 (isF_eq hr hF)
theorem fS_65 {f : Nat → Int64} {h : hp_H} {g o : Nat → Nat} (hf : fS f h g o) : h[65]? = some (PA (rs f 64) (cn (hdb g) (rs f 64))) := by
  obtain ⟨s, r, a1, a2, a3, a4, a5, a6, a7, a8, a9, a10⟩ := hf
  exact a1
theorem cn_4096 (fi : Nat → Bool) : cn fi 4096 < 2 ^ 31 := Nat.lt_of_le_of_lt (cn_le fi 4096) (by decide)
theorem esS_find1 {h h' : hp_H} {s : St} (hS : esS h s) (x2 : hx [65, 66, 67, 69, 71] h h') {f : Nat → Int64} {g o : Nat → Nat} (hf : fS f h' g o) : esS h' s := by
  obtain ⟨⟨w1, v1⟩, ⟨w2, u2, v2⟩, ⟨w3, v3⟩, ⟨w4, v4⟩, ⟨w5, v5⟩, ⟨w6, v6⟩, ⟨w7, v7⟩, ⟨w8, v8⟩, ⟨w9, v9⟩, ⟨w10, v10⟩, ⟨w11, v11⟩⟩ := id hS.2.2.2.2
  exact esS_find hS (hx_tr x2 (hx_rf [] _) _ (by decide) (by decide)) hf ⟨_, hx_at x2 (by decide) v7⟩ ⟨_, hx_at x2 (by decide) v11⟩
theorem find_M (l : Launch) {h : hp_H} {s : St} (hS : esS h s) {b : Nat} {f : Nat → Int64} (hb : isR b) (hf : h[b]? = some (LA 64 f)) : hp_M l Y_pa_findShapes [.ref 65, .ref b] h false 0 0 (fun q h' => q = .inl none ∧ hx [65, 66, 67, 69, 71] h h' ∧ esS h' s ∧ ∃ g o, fS f h' g o) := by
  obtain ⟨⟨w1, v1⟩, ⟨w2, u2, v2⟩, ⟨w3, v3⟩, ⟨w4, v4⟩, ⟨w5, v5⟩, ⟨w6, v6⟩, ⟨w7, v7⟩, ⟨w8, v8⟩, ⟨w9, v9⟩, ⟨w10, v10⟩, ⟨w11, v11⟩⟩ := id hS.2.2.2.2
  refine hp_M_weak (c_pa_findShapes l h b w2 u2 f w3 w4 w6 w8 hb hf v2 v3 v4 v6 v8) (fun r h' q => ?_)
  obtain ⟨q1, q2, g, o, q3⟩ := q
  exact ⟨q1, q2, esS_find1 hS q2 q3, g, o, q3⟩
theorem es_65 {h : hp_H} {s : St} (hS : esS h s) : ∃ rc sc, h[65]? = some (PA rc sc) := hS.2.2.2.2.2.1
set_option maxRecDepth 20000 in
theorem k_shapes_1 (l : Launch) (s : St) (x : Int32) (v : Value) (hx0 : x < 0 ∨ nI (s_B s + s_m s) ≤ x) : clsM l Y_es_shapes [.int x] s 1 v s := by
  intro h hS
  refine hp_start (T := T_es_shapes) (by decide) rfl (fun σ => Nat.le_of_ble_eq_true rfl) (fun G C => ?_)
  refine hp_run_sound hp_co V_es_shapes C (fun _ _ _ _ _ _ _ hq => hq) [] 4 _ _ _ _ _ _ _ ?_
  refine And.intro ⟨0, _, hS.1, rfl⟩ ?_
  refine ic_P (c_es_needLayer_no l h _ _ _ x hS.1 hx0) (Nat.le_refl _) (Nat.le_refl _) ?_
  exact ⟨rfl, hxC_rf h, hS⟩
set_option maxRecDepth 20000 in
theorem k_shapes_0 (l : Launch) (s : St) (L : Nat) (hO : stOK s) (hL : L < s_B s + s_m s) (F : Nat → Int64) (hF : shw s L F) (fi : Nat → Bool) (hfi : isF F 0 fi) : clsM l Y_es_shapes [.int (nI L)] s 0 (.int (nI (cn fi 4096))) s := by
  intro h hS
  refine hp_start (T := T_es_shapes) (by decide) rfl (fun σ => Nat.le_of_ble_eq_true rfl) (fun G C => ?_)
  refine hp_run_sound hp_co V_es_shapes C (fun _ _ _ _ _ _ _ hq => hq) [] 20 _ _ _ _ _ _ _ ?_
  refine And.intro ⟨0, _, hS.1, rfl⟩ ?_
  refine ic_P (c_es_needLayer l h _ _ _ (nI L) hS.1 (lay_ok hO hL).1 (lay_ok hO hL).2) (Nat.le_add_left _ _) (Nat.le_add_left _ _) ?_
  refine Exists.intro _ (And.intro hS.1 ?_)
  refine Exists.intro _ (And.intro hS.1 ?_)
  refine And.intro ⟨0, _, hS.1, rfl⟩ ?_
  refine ic_Q (c_es_areaOf l h s L 72 hO hS hL (Or.inl rfl)) (Nat.le_add_left _ _) (Nat.le_add_left _ _) (fun r h2 hq => ?_)
  obtain ⟨b, f, rfl, hb2, hf, hsh, hx1, hS2⟩ := hq
  have r1 : isR b := isR_b (Or.inl rfl) hO.2.2.1 hb2
  obtain ⟨rc, sc, h65⟩ := es_65 hS2
  refine And.intro ⟨2, _, h65, rfl⟩ ?_
  refine ic_Q (find_M l hS2 r1 hf) (Nat.le_add_left _ _) (Nat.le_add_left _ _) (fun r h3 hq => ?_)
  obtain ⟨rfl, x2, hS3, g, o, hfs⟩ := hq
  refine Exists.intro _ (And.intro hS3.1 ?_)
  refine And.intro ⟨2, _, fS_65 hfs, rfl⟩ ?_
  refine ic_P (c_pa_countShapes l h3 _ _ (fS_65 hfs)) (Nat.le_add_left _ _) (Nat.le_add_left _ _) ?_
  rw [fS_all hfs (rw_of hsh hF) hfi]
  exact And.intro rfl (And.intro rfl ⟨rfl, hxC_tr (hxC_area (Or.inl rfl) hx1) (hxC_of x2 (by decide)), hS3⟩)
set_option maxRecDepth 20000 in
theorem k_nets_1 (l : Launch) (s : St) (x : Int32) (v : Value) (hx0 : x < 0 ∨ nI (s_B s + s_m s) ≤ x) : clsM l Y_es_nets [.int x] s 1 v s := by
  intro h hS
  refine hp_start (T := T_es_nets) (by decide) rfl (fun σ => Nat.le_of_ble_eq_true rfl) (fun G C => ?_)
  refine hp_run_sound hp_co V_es_nets C (fun _ _ _ _ _ _ _ hq => hq) [] 4 _ _ _ _ _ _ _ ?_
  refine And.intro ⟨0, _, hS.1, rfl⟩ ?_
  refine ic_P (c_es_needLayer_no l h _ _ _ x hS.1 hx0) (Nat.le_refl _) (Nat.le_refl _) ?_
  exact ⟨rfl, hxC_rf h, hS⟩
theorem esS_68 {h : hp_H} {s : St} (hS : esS h s) (g : Nat → Nat) : esS (h.set 68 (NA 2048 g)) s := by
  have x1 : hx [68] h (h.set 68 (NA 2048 g)) := hx_set (hx_rf _ _) _ (by decide)
  obtain ⟨⟨w1, v1⟩, ⟨w2, u2, v2⟩, ⟨w3, v3⟩, ⟨w4, v4⟩, ⟨w5, v5⟩, ⟨w6, v6⟩, ⟨w7, v7⟩, ⟨w8, v8⟩, ⟨w9, v9⟩, ⟨w10, v10⟩, ⟨w11, v11⟩⟩ := id hS.2.2.2.2
  refine esS_hx hS (hx_tr x1 (hx_rf [] _) _ (by decide) (by decide)) ?_
  exact wkS_hx x1 hS.2.2.2.2 (Or.inl (by decide)) (Or.inl (by decide)) (Or.inl (by decide)) (Or.inl (by decide)) (Or.inr ⟨_, hq_get v5⟩) (Or.inl (by decide)) (Or.inl (by decide)) (Or.inl (by decide)) (Or.inl (by decide)) (Or.inl (by decide)) (Or.inl (by decide))
theorem nets_M (l : Launch) {h : hp_H} {s : St} (hS : esS h s) {b : Nat} {f : Nat → Int64} {g o : Nat → Nat} (hb : isR b) (hf : h[b]? = some (LA 64 f)) (hfs : fS f h g o) : hp_M l Y_pa_findNets [.ref 65, .ref b] h false 0 0 (fun q h' => q = .inl none ∧ hx [68] h h' ∧ esS h' s ∧ fS f h' g o ∧ ∃ gn, h'[68]? = some (NA 2048 gn) ∧ (∀ r, r < rs f 64 → gn r ≤ r ∧ gn (gn r) = gn r) ∧ okc (rs f 64) gn (jpq f 1 64 0)) := by
  obtain ⟨⟨w1, v1⟩, ⟨w2, u2, v2⟩, ⟨w3, v3⟩, ⟨w4, v4⟩, ⟨w5, v5⟩, ⟨w6, v6⟩, ⟨w7, v7⟩, ⟨w8, v8⟩, ⟨w9, v9⟩, ⟨w10, v10⟩, ⟨w11, v11⟩⟩ := id hS.2.2.2.2
  refine hp_M_weak (c_pa_findNets l h b f g o w5 hb hf hfs v5) (fun r h' q => ?_)
  obtain ⟨q1, gn, rfl, q2, q3⟩ := q
  have x1 : hx [68] h (h.set 68 (NA 2048 gn)) := hx_set (hx_rf _ _) _ (by decide)
  exact ⟨q1, x1, esS_68 hS gn, fS_hx hfs x1 (by decide) (by decide) (by decide) (by decide) (by decide), gn, hq_get v5, q2, q3⟩
theorem ne_big {b : Nat} (hb : isR b) {ps : List Nat} (hp : ∀ q ∈ ps, q < 41 ∨ (65 ≤ q ∧ q < 72) ∨ 75 ≤ q) : b ∉ ps := fun e => isR_ne hb (hp b e) rfl
set_option maxRecDepth 20000 in
theorem k_nets_0 (l : Launch) (s : St) (L : Nat) (hO : stOK s) (hL : L < s_B s + s_m s) (F : Nat → Int64) (hF : shw s L F) (fj : Nat → Bool) (hfj : isF F 1 fj) : clsM l Y_es_nets [.int (nI L)] s 0 (.int (nI (cn fj 4096))) s := by
  intro h hS
  refine hp_start (T := T_es_nets) (by decide) rfl (fun σ => Nat.le_of_ble_eq_true rfl) (fun G C => ?_)
  refine hp_run_sound hp_co V_es_nets C (fun _ _ _ _ _ _ _ hq => hq) [] 30 _ _ _ _ _ _ _ ?_
  refine And.intro ⟨0, _, hS.1, rfl⟩ ?_
  refine ic_P (c_es_needLayer l h _ _ _ (nI L) hS.1 (lay_ok hO hL).1 (lay_ok hO hL).2) (Nat.le_add_left _ _) (Nat.le_add_left _ _) ?_
  refine Exists.intro _ (And.intro hS.1 ?_)
  refine And.intro ⟨0, _, hS.1, rfl⟩ ?_
  refine ic_Q (c_es_areaOf l h s L 72 hO hS hL (Or.inl rfl)) (Nat.le_add_left _ _) (Nat.le_add_left _ _) (fun r h2 hq => ?_)
  obtain ⟨b, f, rfl, hb2, hf, hsh, hx1, hS2⟩ := hq
  have r1 : isR b := isR_b (Or.inl rfl) hO.2.2.1 hb2
  obtain ⟨rc, sc, h65⟩ := es_65 hS2
  refine Exists.intro _ (And.intro hS2.1 ?_)
  refine And.intro ⟨2, _, h65, rfl⟩ ?_
  refine ic_Q (find_M l hS2 r1 hf) (Nat.le_add_left _ _) (Nat.le_add_left _ _) (fun r h3 hq => ?_)
  obtain ⟨rfl, x2, hS3, g, o, hfs⟩ := hq
  refine Exists.intro _ (And.intro hS3.1 ?_)
  refine And.intro ⟨2, _, fS_65 hfs, rfl⟩ ?_
  refine ic_Q (nets_M l hS3 r1 (hx_at x2 (ne_big r1 (by decide)) hf) hfs) (Nat.le_add_left _ _) (Nat.le_add_left _ _) (fun r h4 hq => ?_)
  obtain ⟨rfl, x3, hS4, hfs4, gn, k68, n1, n2⟩ := hq
  refine Exists.intro _ (And.intro hS4.1 ?_)
  refine And.intro ⟨2, _, fS_65 hfs4, rfl⟩ ?_
  refine ic_P (c_pa_countNets l h4 _ _ (rs_le f (Nat.le_refl _)) gn (fun r hr => (n1 r hr).1) (fS_65 hfs4) k68) (Nat.le_add_left _ _) (Nat.le_add_left _ _) ?_
  rw [head_all n1 n2 (isF_eq (rw_of hsh hF) hfj)]
  exact And.intro rfl (And.intro rfl ⟨rfl, hxC_tr (hxC_area (Or.inl rfl) hx1) (hxC_tr (hxC_of x2 (by decide)) (hxC_of x3 (by decide))), hS4⟩)
set_option maxRecDepth 20000 in
theorem k_netOf_1 (l : Launch) (s : St) (x t : Int32) (v : Value) (hx0 : x < 0 ∨ nI (s_B s + s_m s) ≤ x) : clsM l Y_es_netOf [.int x, .int t] s 1 v s := by
  intro h hS
  refine hp_start (T := T_es_netOf) (by decide) rfl (fun σ => Nat.le_of_ble_eq_true rfl) (fun G C => ?_)
  refine hp_run_sound hp_co V_es_netOf C (fun _ _ _ _ _ _ _ hq => hq) [] 4 _ _ _ _ _ _ _ ?_
  refine And.intro ⟨0, _, hS.1, rfl⟩ ?_
  refine ic_P (c_es_needLayer_no l h _ _ _ x hS.1 hx0) (Nat.le_refl _) (Nat.le_refl _) ?_
  exact ⟨rfl, hxC_rf h, hS⟩
set_option maxRecDepth 20000 in
theorem k_netOf_1t (l : Launch) (s : St) (L : Nat) (t : Int32) (v : Value) (hO : stOK s) (hL : L < s_B s + s_m s) (F : Nat → Int64) (hF : shw s L F) (fi : Nat → Bool) (hfi : isF F 0 fi) (ht : t < 0 ∨ nI (cn fi 4096) ≤ t) : clsM l Y_es_netOf [.int (nI L), .int t] s 1 v s := by
  intro h hS
  refine hp_start (T := T_es_netOf) (by decide) rfl (fun σ => Nat.le_of_ble_eq_true rfl) (fun G C => ?_)
  refine hp_run_sound hp_co V_es_netOf C (fun _ _ _ _ _ _ _ hq => hq) [] 30 _ _ _ _ _ _ _ ?_
  refine And.intro ⟨0, _, hS.1, rfl⟩ ?_
  refine ic_P (c_es_needLayer l h _ _ _ (nI L) hS.1 (lay_ok hO hL).1 (lay_ok hO hL).2) (Nat.le_add_left _ _) (Nat.le_add_left _ _) ?_
  refine Exists.intro _ (And.intro hS.1 ?_)
  refine And.intro ⟨0, _, hS.1, rfl⟩ ?_
  refine ic_Q (c_es_areaOf l h s L 72 hO hS hL (Or.inl rfl)) (Nat.le_add_left _ _) (Nat.le_add_left _ _) (fun r h2 hq => ?_)
  obtain ⟨b, f, rfl, hb2, hf, hsh, hx1, hS2⟩ := hq
  have r1 : isR b := isR_b (Or.inl rfl) hO.2.2.1 hb2
  obtain ⟨rc, sc, h65⟩ := es_65 hS2
  refine Exists.intro _ (And.intro hS2.1 ?_)
  refine And.intro ⟨2, _, h65, rfl⟩ ?_
  refine ic_Q (find_M l hS2 r1 hf) (Nat.le_add_left _ _) (Nat.le_add_left _ _) (fun r h3 hq => ?_)
  obtain ⟨rfl, x2, hS3, g, o, hfs⟩ := hq
  refine Exists.intro _ (And.intro hS3.1 ?_)
  refine And.intro ⟨2, _, fS_65 hfs, rfl⟩ ?_
  refine ic_P (c_pa_countShapes l h3 _ _ (fS_65 hfs)) (Nat.le_add_left _ _) (Nat.le_add_left _ _) ?_
  rw [fS_all hfs (rw_of hsh hF) hfi]
  refine ic_P (c_es_needIndex_no l h3 t (nI (cn fi 4096)) ht) (Nat.le_refl _) (Nat.le_refl _) ?_
  exact ⟨rfl, hxC_tr (hxC_area (Or.inl rfl) hx1) (hxC_of x2 (by decide)), hS3⟩
set_option maxRecDepth 20000 in
theorem k_netOf_0 (l : Launch) (s : St) (L k a : Nat) (hO : stOK s) (hL : L < s_B s + s_m s) (F : Nat → Int64) (hF : shw s L F) (fi fj : Nat → Bool) (hfi : isF F 0 fi) (hfj : isF F 1 fj) (hk : k < 4096) (ha : a < 4096) (k1 : fi k = true) (a1 : fj a = true) (hc : cnx (adj F 1) a k) :
    clsM l Y_es_netOf [.int (nI L), .int (nI (cn fi k))] s 0 (.int (nI (cn fi a))) s := by
  intro h hS
  have hkn : cn fi k < cn fi 4096 := cn_in hk k1
  have hb := cn_4096 fi
  refine hp_start (T := T_es_netOf) (by decide) rfl (fun σ => Nat.le_of_ble_eq_true rfl) (fun G C => ?_)
  refine hp_run_sound hp_co V_es_netOf C (fun _ _ _ _ _ _ _ hq => hq) [] 40 _ _ _ _ _ _ _ ?_
  refine And.intro ⟨0, _, hS.1, rfl⟩ ?_
  refine ic_P (c_es_needLayer l h _ _ _ (nI L) hS.1 (lay_ok hO hL).1 (lay_ok hO hL).2) (Nat.le_add_left _ _) (Nat.le_add_left _ _) ?_
  refine Exists.intro _ (And.intro hS.1 ?_)
  refine And.intro ⟨0, _, hS.1, rfl⟩ ?_
  refine ic_Q (c_es_areaOf l h s L 72 hO hS hL (Or.inl rfl)) (Nat.le_add_left _ _) (Nat.le_add_left _ _) (fun r h2 hq => ?_)
  obtain ⟨b, f, rfl, hb2, hf, hsh, hx1, hS2⟩ := hq
  have r1 : isR b := isR_b (Or.inl rfl) hO.2.2.1 hb2
  have hr := rw_of hsh hF
  obtain ⟨rc, sc, h65⟩ := es_65 hS2
  refine Exists.intro _ (And.intro hS2.1 ?_)
  refine And.intro ⟨2, _, h65, rfl⟩ ?_
  refine ic_Q (find_M l hS2 r1 hf) (Nat.le_add_left _ _) (Nat.le_add_left _ _) (fun r h3 hq => ?_)
  obtain ⟨rfl, x2, hS3, g, o, hfs⟩ := hq
  refine Exists.intro _ (And.intro hS3.1 ?_)
  refine And.intro ⟨2, _, fS_65 hfs, rfl⟩ ?_
  refine ic_P (c_pa_countShapes l h3 _ _ (fS_65 hfs)) (Nat.le_add_left _ _) (Nat.le_add_left _ _) ?_
  rw [fS_all hfs hr hfi]
  refine ic_P (c_es_needIndex l h3 (nI (cn fi k)) (nI (cn fi 4096)) (nI_pos (by omega)) (nI_ge hkn hb)) (Nat.le_add_left _ _) (Nat.le_add_left _ _) ?_
  refine Exists.intro _ (And.intro hS3.1 ?_)
  refine And.intro ⟨2, _, fS_65 hfs, rfl⟩ ?_
  refine ic_Q (nets_M l hS3 r1 (hx_at x2 (ne_big r1 (by decide)) hf) hfs) (Nat.le_add_left _ _) (Nat.le_add_left _ _) (fun r h4 hq => ?_)
  obtain ⟨rfl, x3, hS4, hfs4, gn, k68, n1, n2⟩ := hq
  refine Exists.intro _ (And.intro hS4.1 ?_)
  refine And.intro ⟨2, _, fS_65 hfs4, rfl⟩ ?_
  obtain ⟨q1, q2, z65, z66, z67, z69, z71, a6, a7, a8, a9, a10⟩ := id hfs4
  obtain ⟨m1, m2, m3, m4⟩ := net_run a8 a9 a10 n1 n2 (isF_eq hr hfi) (isF_eq hr hfj) hk ha k1 a1 ((con_eq hr).mpr hc)
  have hM := c_pa_leastOfNet l h4 (rs f 64) (cn (hdb g) (rs f 64)) (cn fi k) (rno f k) (rs_le f (Nat.le_refl _)) (by omega) gn o (n1 _ m1).1 (fun r hr => ?_) m1 m2 m3 z65 k68 z69
  · rw [m4] at hM
    refine ic_P hM (Nat.le_add_left _ _) (Nat.le_add_left _ _) ?_
    exact And.intro rfl (And.intro rfl ⟨rfl, hxC_tr (hxC_area (Or.inl rfl) hx1) (hxC_tr (hxC_of x2 (by decide)) (hxC_of x3 (by decide))), hS4⟩)
  · rw [a10 r hr]
    have h1 := cn_le (hdb g) (g r)
    have h2 := (a8 r hr).1
    have h3 := rs_le f (Nat.le_refl 64)
    omega
theorem cnr_eq {f F : Nat → Int64} (h : rwN f = rwN F) : cnr f = cnr F := funext fun y => funext fun x => by unfold cnr; rw [h, rwB_eq h]
theorem cyn_eq {f F : Nat → Int64} (h : rwN f = rwN F) : cyn f = cyn F := by unfold cyn; rw [cnr_eq h]
set_option maxRecDepth 20000 in
theorem k_at_1a (l : Launch) (s : St) (x t k w : Int32) (v : Value) (hx0 : (x < 0 ∨ nI (s_B s + s_m s) ≤ x) ∨ (w < 0 ∨ 2 ≤ w)) : clsM l Y_es_at [.int x, .int t, .int k, .int w] s 1 v s := by
  intro h hS
  refine hp_start (T := T_es_at) (by decide) rfl (fun σ => Nat.le_of_ble_eq_true rfl) (fun G C => ?_)
  refine hp_run_sound hp_co V_es_at C (fun _ _ _ _ _ _ _ hq => hq) [] 6 _ _ _ _ _ _ _ ?_
  by_cases h1 : x < 0 ∨ nI (s_B s + s_m s) ≤ x
  · refine And.intro ⟨0, _, hS.1, rfl⟩ ?_
    refine ic_P (c_es_needLayer_no l h _ _ _ x hS.1 h1) (Nat.le_refl _) (Nat.le_refl _) ?_
    exact ⟨rfl, hxC_rf h, hS⟩
  · have h2 := hx0.resolve_left h1
    refine And.intro ⟨0, _, hS.1, rfl⟩ ?_
    refine ic_P (c_es_needLayer l h _ _ _ x hS.1 (fun q => h1 (Or.inl q)) (fun q => h1 (Or.inr q))) (Nat.le_add_left _ _) (Nat.le_add_left _ _) ?_
    refine ic_P (c_es_needIndex_no l h w 2 h2) (Nat.le_refl _) (Nat.le_refl _) ?_
    exact ⟨rfl, hxC_rf h, hS⟩
/-- rows of the shape that square a is first of -/
def shR (F : Nat → Int64) (a : Nat) (R : Nat → Int64) : Prop := ∀ y x, y < 64 → x < 64 → (bb (R y) x = true ↔ qs F (64 * y + x) = true ∧ cnx (adj F 0) a (64 * y + x))
theorem shR_eq {f F e R : Nat → Int64} {h : hp_H} {g o : Nat → Nat} (hf : fS f h g o) (hr : rwN f = rwN F) {fi : Nat → Bool} (hF : isF F 0 fi) {a : Nat} (ha : a < 4096) (h1 : fi a = true) (hR : shR F a R) (he : ∀ y, y < 64 → e y = orj (fun j => o (rs f y + j) == cn fi a) (xrn (f y)) (nr f y)) : rwN e = rwN R := funext fun y => by
  unfold rwN
  by_cases hy : y < 64
  · rw [if_pos hy, if_pos hy]
    refine bb_ext (fun x hx2 => bool_ext ?_)
    obtain ⟨s, r, a1, a2, a3, a4, a5, a6, a7, a8, a9, a10⟩ := hf
    rw [hR y x hy hx2, he y hy, bb_gat f (fun r => o r == cn fi a) hx2, Bool.and_eq_true, ← qs_at f hx2, ← qs_eq hr (by omega)]
    refine and_congr_right (fun hq => ?_)
    rw [beq_iff_eq, head_no a8 a9 a10 (isF_eq hr hF) (by omega) hq, ofT_con ha h1 rfl, con_eq hr]
  · rw [if_neg hy, if_neg hy]
/-- at from its start to the rows of the shape -/
theorem k_at_start (l : Launch) (s : St) (L ax a : Nat) (kk : Int32) (hO : stOK s) (hL : L < s_B s + s_m s) (hax : ax < 2) (F R : Nat → Int64) (hF : shw s L F) (fi : Nat → Bool) (hfi : isF F 0 fi) (ha : a < 4096) (a1 : fi a = true) (hR : shR F a R) {h : hp_H} (hS : esS h s) {Q : hp_R → hp_H → Prop} {G : hp_G} (C : hp_ctx T_es_at Y_es_at l false 1 6 Q G)
    (hi : ∀ (h5 : hp_H) (e : Nat → Int64), h5[74]? = some (LA 64 e) → rwN e = rwN R → hxC h h5 → esS h5 s → hp_W G 50 [(0, .ref 1), (1, .int (nI L)), (2, .int (nI (cn fi a))), (3, .int kk), (4, .int (nI ax))] [] h5 false 0 0) : hp_W G 0 [(0, .ref 1), (1, .int (nI L)), (2, .int (nI (cn fi a))), (3, .int kk), (4, .int (nI ax))] [] h true 0 0 := by
  have hkn : cn fi a < cn fi 4096 := cn_in ha a1
  have hb := cn_4096 fi
  refine hp_run_sound hp_co V_es_at C (fun _ _ _ _ _ _ _ hq => hq) [50] 40 _ _ _ _ _ _ _ ?_
  refine And.intro ⟨0, _, hS.1, rfl⟩ ?_
  refine ic_P (c_es_needLayer l h _ _ _ (nI L) hS.1 (lay_ok hO hL).1 (lay_ok hO hL).2) (Nat.le_add_left _ _) (Nat.le_add_left _ _) ?_
  refine ic_P (c_es_needIndex l h (nI ax) 2 (nI_pos (by omega)) (nI_ge (b := 2) hax (by decide))) (Nat.le_add_left _ _) (Nat.le_add_left _ _) ?_
  refine Exists.intro _ (And.intro hS.1 ?_)
  refine Exists.intro _ (And.intro hS.1 ?_)
  refine And.intro ⟨0, _, hS.1, rfl⟩ ?_
  refine ic_Q (c_es_areaOf l h s L 72 hO hS hL (Or.inl rfl)) (Nat.le_add_left _ _) (Nat.le_add_left _ _) (fun r h2 hq => ?_)
  obtain ⟨b, f, rfl, hb2, hf, hsh, hx1, hS2⟩ := hq
  have r1 : isR b := isR_b (Or.inl rfl) hO.2.2.1 hb2
  have hr := rw_of hsh hF
  obtain ⟨rc, sc, h65⟩ := es_65 hS2
  refine And.intro ⟨2, _, h65, rfl⟩ ?_
  refine ic_Q (find_M l hS2 r1 hf) (Nat.le_add_left _ _) (Nat.le_add_left _ _) (fun r h3 hq => ?_)
  obtain ⟨rfl, x2, hS3, g, o, hfs⟩ := hq
  refine Exists.intro _ (And.intro hS3.1 ?_)
  refine And.intro ⟨2, _, fS_65 hfs, rfl⟩ ?_
  refine ic_P (c_pa_countShapes l h3 _ _ (fS_65 hfs)) (Nat.le_add_left _ _) (Nat.le_add_left _ _) ?_
  rw [fS_all hfs hr hfi]
  refine ic_P (c_es_needIndex l h3 (nI (cn fi a)) (nI (cn fi 4096)) (nI_pos (by omega)) (nI_ge hkn hb)) (Nat.le_add_left _ _) (Nat.le_add_left _ _) ?_
  refine Exists.intro _ (And.intro hS3.1 ?_)
  refine Exists.intro _ (And.intro hS3.1 ?_)
  refine And.intro ⟨2, _, fS_65 hfs, rfl⟩ ?_
  obtain ⟨w11, v11⟩ := hS3.2.2.2.2.2.2.2.2.2.2.2.2.2.2
  refine ic_Q (c_pa_copyShape l h3 74 (cn fi a) (by omega) f w11 g o (Or.inr ⟨by omega, by omega⟩) v11 hfs) (Nat.le_add_left _ _) (Nat.le_add_left _ _) (fun r h4 hq => ?_)
  obtain ⟨rfl, e, rfl, he⟩ := hq
  exact hi _ e (hq_get v11) (shR_eq hfs hr hfi ha a1 hR he) (hxC_tr (hxC_area (Or.inl rfl) hx1) (hxC_tr (hxC_of x2 (by decide)) (hxC_of (ps := [74]) (hx_set (hx_rf _ _) _ (by decide)) (by decide)))) (esS_74 hS3 e)
set_option maxRecDepth 20000 in
theorem k_at_0 (l : Launch) (s : St) (L ax a y x : Nat) (hO : stOK s) (hL : L < s_B s + s_m s) (hax : ax < 2) (F R : Nat → Int64) (hF : shw s L F) (fi : Nat → Bool) (hfi : isF F 0 fi) (ha : a < 4096) (a1 : fi a = true) (hR : shR F a R) (hy : y ≤ 64) (hx2 : x ≤ 64) (hb : cnr R y x = true) :
    clsM l Y_es_at [.int (nI L), .int (nI (cn fi a)), .int (nI (cyn R y + cn (cnr R y) x)), .int (nI ax)] s 0 (.long (nI (if ax = 1 then y else x)).toInt64) s := by
  intro h hS
  refine hp_start (T := T_es_at) (by decide) rfl (fun σ => Nat.le_of_ble_eq_true rfl) (fun G C => ?_)
  refine k_at_start l s L ax a _ hO hL hax F R hF fi hfi ha a1 hR hS C (fun h5 e k74 hr hx5 hS5 => ?_)
  refine hp_run_sound hp_co V_es_at C (fun _ _ _ _ _ _ _ hq => hq) [] 20 _ _ _ _ _ _ _ ?_
  refine Exists.intro _ (And.intro hS5.1 ?_)
  have hM := c_li_cornerFact l h5 74 y x ax hy hx2 hax e k74 (by rw [cnr_eq hr]; exact hb)
  rw [cyn_eq hr, cnr_eq hr] at hM
  refine ic_P hM (Nat.le_add_left _ _) (Nat.le_add_left _ _) ?_
  exact And.intro rfl (And.intro rfl ⟨rfl, hx5, hS5⟩)
set_option maxRecDepth 20000 in
theorem k_at_1k (l : Launch) (s : St) (L ax a : Nat) (k : Int32) (v : Value) (hO : stOK s) (hL : L < s_B s + s_m s) (hax : ax < 2) (F R : Nat → Int64) (hF : shw s L F) (fi : Nat → Bool) (hfi : isF F 0 fi) (ha : a < 4096) (a1 : fi a = true) (hR : shR F a R) (hk : k < 0 ∨ nI (cyn R 65) ≤ k) :
    clsM l Y_es_at [.int (nI L), .int (nI (cn fi a)), .int k, .int (nI ax)] s 1 v s := by
  intro h hS
  refine hp_start (T := T_es_at) (by decide) rfl (fun σ => Nat.le_of_ble_eq_true rfl) (fun G C => ?_)
  refine k_at_start l s L ax a _ hO hL hax F R hF fi hfi ha a1 hR hS C (fun h5 e k74 hr hx5 hS5 => ?_)
  refine hp_run_sound hp_co V_es_at C (fun _ _ _ _ _ _ _ hq => hq) [] 20 _ _ _ _ _ _ _ ?_
  refine Exists.intro _ (And.intro hS5.1 ?_)
  refine ic_P (c_li_cornerFact_no l h5 74 (nI ax) k e k74 (by rw [cyn_eq hr]; exact hk)) (Nat.le_refl _) (Nat.le_refl _) ?_
  exact ⟨rfl, hx5, hS5⟩
set_option maxRecDepth 20000 in
theorem k_at_1t (l : Launch) (s : St) (L ax : Nat) (t k : Int32) (v : Value) (hO : stOK s) (hL : L < s_B s + s_m s) (hax : ax < 2) (F : Nat → Int64) (hF : shw s L F) (fi : Nat → Bool) (hfi : isF F 0 fi) (ht : t < 0 ∨ nI (cn fi 4096) ≤ t) : clsM l Y_es_at [.int (nI L), .int t, .int k, .int (nI ax)] s 1 v s := by
  intro h hS
  refine hp_start (T := T_es_at) (by decide) rfl (fun σ => Nat.le_of_ble_eq_true rfl) (fun G C => ?_)
  refine hp_run_sound hp_co V_es_at C (fun _ _ _ _ _ _ _ hq => hq) [] 30 _ _ _ _ _ _ _ ?_
  refine And.intro ⟨0, _, hS.1, rfl⟩ ?_
  refine ic_P (c_es_needLayer l h _ _ _ (nI L) hS.1 (lay_ok hO hL).1 (lay_ok hO hL).2) (Nat.le_add_left _ _) (Nat.le_add_left _ _) ?_
  refine ic_P (c_es_needIndex l h (nI ax) 2 (nI_pos (by omega)) (nI_ge (b := 2) hax (by decide))) (Nat.le_add_left _ _) (Nat.le_add_left _ _) ?_
  refine Exists.intro _ (And.intro hS.1 ?_)
  refine Exists.intro _ (And.intro hS.1 ?_)
  refine And.intro ⟨0, _, hS.1, rfl⟩ ?_
  refine ic_Q (c_es_areaOf l h s L 72 hO hS hL (Or.inl rfl)) (Nat.le_add_left _ _) (Nat.le_add_left _ _) (fun r h2 hq => ?_)
  obtain ⟨b, f, rfl, hb2, hf, hsh, hx1, hS2⟩ := hq
  have r1 : isR b := isR_b (Or.inl rfl) hO.2.2.1 hb2
  obtain ⟨rc, sc, h65⟩ := es_65 hS2
  refine And.intro ⟨2, _, h65, rfl⟩ ?_
  refine ic_Q (find_M l hS2 r1 hf) (Nat.le_add_left _ _) (Nat.le_add_left _ _) (fun r h3 hq => ?_)
  obtain ⟨rfl, x2, hS3, g, o, hfs⟩ := hq
  refine Exists.intro _ (And.intro hS3.1 ?_)
  refine And.intro ⟨2, _, fS_65 hfs, rfl⟩ ?_
  refine ic_P (c_pa_countShapes l h3 _ _ (fS_65 hfs)) (Nat.le_add_left _ _) (Nat.le_add_left _ _) ?_
  rw [fS_all hfs (rw_of hsh hF) hfi]
  refine ic_P (c_es_needIndex_no l h3 t (nI (cn fi 4096)) ht) (Nat.le_refl _) (Nat.le_refl _) ?_
  exact ⟨rfl, hxC_tr (hxC_area (Or.inl rfl) hx1) (hxC_of x2 (by decide)), hS3⟩
set_option maxRecDepth 20000 in
theorem k_touching_1 (l : Launch) (s : St) (a b k : Int32) (v : Value) (hab : (a < 0 ∨ nI (s_B s + s_m s) ≤ a) ∨ (b < 0 ∨ nI (s_B s + s_m s) ≤ b) ∨ k < 0) : clsM l Y_es_touching [.int a, .int b, .int k] s 1 v s := by
  intro h hS
  refine hp_start (T := T_es_touching) (by decide) rfl (fun σ => Nat.le_of_ble_eq_true rfl) (fun G C => ?_)
  have thr : ∀ lv, hp_W G 14 lv [] h true 0 0 := fun lv => hq_throw (ik := 62) (is := 182) (ic := 66) (ci := 0) (text := "k is below 0") V_es_touching C tw_es0 (by decide) rfl rfl rfl rfl rfl rfl (by decide) (by decide) (by decide) (by decide) ⟨rfl, hxC_rf h, hS⟩
  refine hp_run_sound hp_co V_es_touching C (fun _ _ _ _ _ _ _ hq => hq) [14, 24] 9 _ _ _ _ _ _ _ ?_
  by_cases h1 : a < 0 ∨ nI (s_B s + s_m s) ≤ a
  · refine And.intro ⟨0, _, hS.1, rfl⟩ ?_
    refine ic_P (c_es_needLayer_no l h _ _ _ a hS.1 h1) (Nat.le_refl _) (Nat.le_refl _) ?_
    exact ⟨rfl, hxC_rf h, hS⟩
  · refine And.intro ⟨0, _, hS.1, rfl⟩ ?_
    refine ic_P (c_es_needLayer l h _ _ _ a hS.1 (fun q => h1 (Or.inl q)) (fun q => h1 (Or.inr q))) (Nat.le_add_left _ _) (Nat.le_add_left _ _) ?_
    by_cases h2 : b < 0 ∨ nI (s_B s + s_m s) ≤ b
    · refine And.intro ⟨0, _, hS.1, rfl⟩ ?_
      refine ic_P (c_es_needLayer_no l h _ _ _ b hS.1 h2) (Nat.le_refl _) (Nat.le_refl _) ?_
      exact ⟨rfl, hxC_rf h, hS⟩
    · refine And.intro ⟨0, _, hS.1, rfl⟩ ?_
      refine ic_P (c_es_needLayer l h _ _ _ b hS.1 (fun q => h2 (Or.inl q)) (fun q => h2 (Or.inr q))) (Nat.le_add_left _ _) (Nat.le_add_left _ _) ?_
      have h3 := (hab.resolve_left h1).resolve_left h2
      exact And.intro (fun q => absurd q (Int32.not_le.mpr h3)) (fun q => thr _)
/-- touching up to the marks -/
theorem k_touching_start (l : Launch) (s : St) (A B k : Nat) (hO : stOK s) (hA : A < s_B s + s_m s) (hB : B < s_B s + s_m s) (hk : k < 2 ^ 31) (F E T : Nat → Int64) (hF : shw s A F) (hE : shw s B E) (hT : grT E T) (fi M : Nat → Bool) (hfi : isF F 0 fi) (hM : ∀ t, t < cn fi 4096 → (M t = true ↔ mkT F fi T t)) {h : hp_H} (hS : esS h s) {Q : hp_R → hp_H → Prop} {G : hp_G} (C : hp_ctx T_es_touching Y_es_touching l false 1 6 Q G)
    (hi : ∀ (h5 : hp_H) (M' : Nat → Bool) (rc : Nat), h5[65]? = some (PA rc (cn fi 4096)) → cn fi 4096 ≤ 2048 → h5[70]? = some (BA 2048 M') → (∀ t, t < cn fi 4096 → M' t = M t) → hxC h h5 → esS h5 s → hp_W G 46 [(0, .ref 1), (1, .int (nI A)), (2, .int (nI B)), (3, .int (nI k))] [] h5 false 0 0) : hp_W G 0 [(0, .ref 1), (1, .int (nI A)), (2, .int (nI B)), (3, .int (nI k))] [] h true 0 0 := by
  refine hp_run_sound hp_co V_es_touching C (fun _ _ _ _ _ _ _ hq => hq) [14, 46] 40 _ _ _ _ _ _ _ ?_
  refine And.intro ⟨0, _, hS.1, rfl⟩ ?_
  refine ic_P (c_es_needLayer l h _ _ _ _ hS.1 (lay_ok hO hA).1 (lay_ok hO hA).2) (Nat.le_add_left _ _) (Nat.le_add_left _ _) ?_
  refine And.intro ⟨0, _, hS.1, rfl⟩ ?_
  refine ic_P (c_es_needLayer l h _ _ _ _ hS.1 (lay_ok hO hB).1 (lay_ok hO hB).2) (Nat.le_add_left _ _) (Nat.le_add_left _ _) ?_
  refine And.intro (fun _ => ?_) (fun q => absurd (nI_pos' hk) q)
  refine Exists.intro _ (And.intro hS.1 ?_)
  refine And.intro ⟨0, _, hS.1, rfl⟩ ?_
  refine ic_Q (c_es_areaOf l h s A 72 hO hS hA (Or.inl rfl)) (Nat.le_add_left _ _) (Nat.le_add_left _ _) (fun r h2 hq => ?_)
  obtain ⟨b1, f1, rfl, e1, hf1, hs1, hx1, hS2⟩ := hq
  refine Exists.intro _ (And.intro hS2.1 ?_)
  refine And.intro ⟨0, _, hS2.1, rfl⟩ ?_
  refine ic_Q (c_es_areaOf l h2 s B 73 hO hS2 hB (Or.inr rfl)) (Nat.le_add_left _ _) (Nat.le_add_left _ _) (fun r h3 hq => ?_)
  obtain ⟨b2, f2, rfl, e2, hf2, hs2, hx2, hS3⟩ := hq
  have hm := hO.2.2.1
  have nb : ∀ b : Nat, (b = 72 ∨ (41 ≤ b ∧ b < 41 + s_m s)) → b ∉ [39, 73] ∧ b ≠ 74 := fun b e => by
    constructor
    · intro q
      simp at q
      omega
    · omega
  refine And.intro ⟨0, _, hS3.1, rfl⟩ ?_
  refine ic_Q (c_es_markTouching l h3 s b1 b2 f1 f2 (isR_b (Or.inl rfl) hm e1) (nb b1 e1).2 (isR_b (Or.inr rfl) hm e2) (hx_at hx2 (nb b1 e1).1 hf1) hf2 hS3) (Nat.le_add_left _ _) (Nat.le_add_left _ _) (fun r h6 hq => ?_)
  obtain ⟨rfl, x3, hS6, g, o, M', t, hfs3, k70', ht, hM'⟩ := hq
  have hr1 := rw_of hs1 hF
  have hr2 := grT_eq (rw_of hs2 hE) hT ht
  have hall := fS_all hfs3 hr1 hfi
  have k65 := fS_65 hfs3
  have hle : cn (hdb g) (rs f1 64) ≤ 2048 := Nat.le_trans (cn_le _ _) (rs_le f1 (Nat.le_refl _))
  rw [hall] at k65 hle hM'
  refine hi h6 M' _ k65 hle k70' (fun i hi2 => bool_ext ?_) (hxC_tr (hxC_area (Or.inl rfl) hx1) (hxC_tr (hxC_area (Or.inr rfl) hx2) (hxC_of x3 (by decide)))) hS6
  obtain ⟨q1, q2, z65, z66, z67, z69, z71, a6, a7, a8, a9, a10⟩ := id hfs3
  rw [hM' i hi2, hM i hi2, mtQ_sq a8 a9 a10 (isF_eq hr1 hfi)]
  unfold mkT ofT
  refine exists_congr (fun j => and_congr_right (fun j1 => ?_))
  rw [qs_eq hr1 j1, qs_eq hr2 j1]
  refine and_congr_right (fun _ => and_congr_right (fun _ => exists_congr (fun a => and_congr_right (fun _ => and_congr_right (fun _ => and_congr_left (fun _ => con_eq hr1))))))
set_option maxRecDepth 20000 in
theorem k_touching_0 (l : Launch) (s : St) (A B t : Nat) (hO : stOK s) (hA : A < s_B s + s_m s) (hB : B < s_B s + s_m s) (F E T : Nat → Int64) (hF : shw s A F) (hE : shw s B E) (hT : grT E T) (fi M : Nat → Bool) (hfi : isF F 0 fi) (hM : ∀ t, t < cn fi 4096 → (M t = true ↔ mkT F fi T t)) (ht : t < cn fi 4096) (hMt : M t = true) :
    clsM l Y_es_touching [.int (nI A), .int (nI B), .int (nI (cn M t))] s 0 (.int (nI t)) s := by
  intro h hS
  have hb := cn_4096 fi
  have hc := cn_le M t
  refine hp_start (T := T_es_touching) (by decide) rfl (fun σ => Nat.le_of_ble_eq_true rfl) (fun G C => ?_)
  refine k_touching_start l s A B (cn M t) hO hA hB (by omega) F E T hF hE hT fi M hfi hM hS C (fun h5 M' rc k65 hle k70 hMM hx5 hS5 => ?_)
  refine hp_run_sound hp_co V_es_touching C (fun _ _ _ _ _ _ _ hq => hq) [] 20 _ _ _ _ _ _ _ ?_
  refine Exists.intro _ (And.intro hS5.1 ?_)
  refine And.intro ⟨2, _, k65, rfl⟩ ?_
  have h1 := c_pa_markedShape l h5 rc (cn fi 4096) t hle M' ht (by rw [hMM t ht]; exact hMt) k65 k70
  rw [cn_congr t (fun i hi => hMM i (by omega))] at h1
  refine ic_P h1 (Nat.le_add_left _ _) (Nat.le_add_left _ _) ?_
  exact And.intro rfl (And.intro rfl ⟨rfl, hx5, hS5⟩)
set_option maxRecDepth 20000 in
theorem k_touching_n (l : Launch) (s : St) (A B k : Nat) (hO : stOK s) (hA : A < s_B s + s_m s) (hB : B < s_B s + s_m s) (hk : k < 2 ^ 31) (F E T : Nat → Int64) (hF : shw s A F) (hE : shw s B E) (hT : grT E T) (fi M : Nat → Bool) (hfi : isF F 0 fi) (hM : ∀ t, t < cn fi 4096 → (M t = true ↔ mkT F fi T t)) (hkM : cn M (cn fi 4096) ≤ k) :
    clsM l Y_es_touching [.int (nI A), .int (nI B), .int (nI k)] s 0 (.int (-1)) s := by
  intro h hS
  refine hp_start (T := T_es_touching) (by decide) rfl (fun σ => Nat.le_of_ble_eq_true rfl) (fun G C => ?_)
  refine k_touching_start l s A B k hO hA hB hk F E T hF hE hT fi M hfi hM hS C (fun h5 M' rc k65 hle k70 hMM hx5 hS5 => ?_)
  refine hp_run_sound hp_co V_es_touching C (fun _ _ _ _ _ _ _ hq => hq) [] 20 _ _ _ _ _ _ _ ?_
  refine Exists.intro _ (And.intro hS5.1 ?_)
  refine And.intro ⟨2, _, k65, rfl⟩ ?_
  refine ic_P (c_pa_markedShape_no l h5 rc (cn fi 4096) k hle M' (by rw [cn_congr _ hMM]; exact hkM) hk k65 k70) (Nat.le_add_left _ _) (Nat.le_add_left _ _) ?_
  exact And.intro rfl (And.intro rfl ⟨rfl, hx5, hS5⟩)
