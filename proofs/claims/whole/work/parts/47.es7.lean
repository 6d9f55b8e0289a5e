/-! edge: no such; trapezoid -/
set_option maxRecDepth 20000 in
theorem k_edge_1k (l : Launch) (s : St) (L w : Nat) (k : Int32) (v : Value) (hO : stOK s) (hL : L < s_B s + s_m s) (hw : w < 5) (F : Nat → Int64) (hF : shw s L F) (hk : k < 0 ∨ nI (lyn F 65 + lyn (xtu F) 65) ≤ k) : clsM l Y_es_edge [.int (nI L), .int k, .int (nI w)] s 1 v s := by
  intro h hS
  refine hp_start (T := T_es_edge) (by decide) rfl (fun σ => Nat.le_of_ble_eq_true rfl) (fun G C => ?_)
  refine hp_run_sound hp_co V_es_edge C (fun _ _ _ _ _ _ _ hq => hq) [] 50 _ _ _ _ _ _ _ ?_
  refine And.intro ⟨0, _, hS.1, rfl⟩ ?_
  refine ic_P (c_es_needLayer l h _ _ _ (nI L) hS.1 (lay_ok hO hL).1 (lay_ok hO hL).2) (Nat.le_add_left _ _) (Nat.le_add_left _ _) ?_
  refine ic_P (c_es_needIndex l h (nI w) 5 (nI_pos (by omega)) (nI_ge (b := 5) hw (by decide))) (Nat.le_add_left _ _) (Nat.le_add_left _ _) ?_
  refine Exists.intro _ (And.intro hS.1 ?_)
  refine And.intro ⟨0, _, hS.1, rfl⟩ ?_
  refine ic_Q (c_es_areaOf l h s L 72 hO hS hL (Or.inl rfl)) (Nat.le_add_left _ _) (Nat.le_add_left _ _) (fun r h2 hq => ?_)
  obtain ⟨b, f, rfl, hb2, hf, hsh, hx1, hS2⟩ := hq
  have hr := rw_of hsh hF
  refine ic_P (c_li_countLying l h2 b f hf) (Nat.le_add_left _ _) (Nat.le_add_left _ _) ?_
  rw [lyn_eq hr]
  have h5 := lyn_le F (y := 65) (by omega)
  have h6 := lyn_le (xtu F) (y := 65) (by omega)
  by_cases hk0 : k < 0
  · refine And.intro (fun q => ?_) (fun q => ?_)
    · exact absurd (Int32.lt_of_lt_of_le hk0 (nI_pos' (by omega : lyn F 65 < 2 ^ 31))) (Int32.not_lt.mpr q)
    · refine ic_P (c_li_lyingFact_no l h2 b w k f hf (Or.inl hk0)) (Nat.le_refl _) (Nat.le_refl _) ?_
      exact ⟨rfl, hxC_area (Or.inl rfl) hx1, hS2⟩
  · obtain ⟨K, hK1, rfl⟩ := nI_of hk0
    have hK : lyn F 65 + lyn (xtu F) 65 ≤ K := by
      rcases hk with e | e
      · exact absurd e hk0
      · exact (nI_leI (by omega) hK1).mp e
    refine And.intro (fun q => ?_) (fun q => absurd (nI_le (by omega) (by omega)) q)
    refine Exists.intro _ (And.intro hS2.1 ?_)
    obtain ⟨w1, w2, w3, w4, w5, w6, w7, w8, w9, w10, ⟨e, v11⟩⟩ := id hS2.2.2.2.2
    refine ic_P (c_ro_copy l h2 b 74 f e hf v11) (Nat.le_add_left _ _) (Nat.le_add_left _ _) ?_
    have hS3 := esS_74 hS2 (fun j => if j < 64 then f j else e j)
    refine Exists.intro _ (And.intro hS3.1 ?_)
    refine ic_P (c_ro_turn l _ 74 _ (hq_get v11)) (Nat.le_add_left _ _) (Nat.le_add_left _ _) ?_
    have hS4 := esS_74 hS3 (xtu (fun j => if j < 64 then f j else e j))
    refine Exists.intro _ (And.intro hS4.1 ?_)
    refine ic_P (c_tuf l _ w hw) (Nat.le_add_left _ _) (Nat.le_add_left _ _) ?_
    have hr2 : rwN (xtu (fun j => if j < 64 then f j else e j)) = rwN (xtu F) := turn_rw.trans (xtu_eq hr)
    refine ic_P (c_li_lyingFact_no l _ 74 (tuf w) (nI K - nI (lyn F 65)) _ (hq_get (hq_get v11)) (Or.inr (by rw [lyn_eq hr2, pk_sub (by omega)]; exact nI_le (by omega) (by omega)))) (Nat.le_refl _) (Nat.le_refl _) ?_
    exact ⟨rfl, hxC_tr (hxC_area (Or.inl rfl) hx1) (hxC_of (ps := [74]) (hx_set (hx_set (hx_rf _ _) _ (by decide)) _ (by decide)) (by decide)), hS4⟩
theorem row_eq {f F : Nat → Int64} (h : rwN f = rwN F) {y : Nat} (hy : y < 64) : f y = F y := by
  have e := congrFun h y
  unfold rwN at e
  rw [if_pos hy, if_pos hy] at e
  exact e
theorem bxs_eq {f F : Nat → Int64} (h : rwN f = rwN F) {y : Nat} (hy : y < 64) : bxs f y = bxs F y := by
  unfold bxs
  rw [row_eq h hy, rwB_eq h]
theorem sm_congr {p q : Nat → Nat} : ∀ n, (∀ y, y < n → p y = q y) → sm p n = sm q n
  | 0, _ => rfl
  | n + 1, e => by rw [sm_s, sm_s, sm_congr n (fun y hy => e y (by omega)), e n (by omega)]
theorem byn_eq {f F : Nat → Int64} (h : rwN f = rwN F) {y : Nat} (hy : y ≤ 64) : byn f y = byn F y := sm_congr y (fun v hv => by rw [bxs_eq h (by omega)])
theorem xse_eq {f F : Nat → Int64} (h : rwN f = rwN F) {y : Nat} (hy : y < 64) : ∀ m, m ≤ 64 → xse f y m = xse F y m
  | 0, _ => rfl
  | m + 1, hm => by
    show (if f (63 - m) = f y then xse f y m else 63 - m) = (if F (63 - m) = F y then xse F y m else 63 - m)
    rw [row_eq h (show 63 - m < 64 by omega), row_eq h hy, xse_eq h hy m (by omega)]
theorem xbf_eq {f F : Nat → Int64} (h : rwN f = rwN F) {y : Nat} (hy : y < 64) (x w : Nat) : xbf f y x w = xbf F y x w := by
  unfold xbf
  rw [row_eq h hy, xse_eq h hy _ (by omega)]
set_option maxRecDepth 20000 in
theorem k_trap_1a (l : Launch) (s : St) (x k w : Int32) (v : Value) (hx0 : (x < 0 ∨ nI (s_B s + s_m s) ≤ x) ∨ (w < 0 ∨ 4 ≤ w)) : clsM l Y_es_trapezoid [.int x, .int k, .int w] s 1 v s := by
  intro h hS
  refine hp_start (T := T_es_trapezoid) (by decide) rfl (fun σ => Nat.le_of_ble_eq_true rfl) (fun G C => ?_)
  refine hp_run_sound hp_co V_es_trapezoid C (fun _ _ _ _ _ _ _ hq => hq) [] 12 _ _ _ _ _ _ _ ?_
  refine And.intro ⟨0, _, hS.1, rfl⟩ ?_
  by_cases c : x < 0 ∨ nI (s_B s + s_m s) ≤ x
  · refine ic_P (c_es_needLayer_no l h _ _ _ x hS.1 c) (Nat.le_refl _) (Nat.le_refl _) ?_
    exact ⟨rfl, hxC_rf h, hS⟩
  · refine ic_P (c_es_needLayer l h _ _ _ x hS.1 (fun q => c (Or.inl q)) (fun q => c (Or.inr q))) (Nat.le_add_left _ _) (Nat.le_add_left _ _) ?_
    refine ic_P (c_es_needIndex_no l h w 4 (by rcases hx0 with e | e; exact absurd e c; exact e)) (Nat.le_refl _) (Nat.le_refl _) ?_
    exact ⟨rfl, hxC_rf h, hS⟩
set_option maxRecDepth 20000 in
theorem k_trap_0 (l : Launch) (s : St) (L w y x : Nat) (hO : stOK s) (hL : L < s_B s + s_m s) (hw : w < 4) (F : Nat → Int64) (hF : shw s L F) (hy : y < 64) (hx2 : x < 64) (hb : bb (bxs F y) x = true) : clsM l Y_es_trapezoid [.int (nI L), .int (nI (byn F y + cn (bb (bxs F y)) x)), .int (nI w)] s 0 (.int (xbf F y x w)) s := by
  intro h hS
  refine hp_start (T := T_es_trapezoid) (by decide) rfl (fun σ => Nat.le_of_ble_eq_true rfl) (fun G C => ?_)
  refine hp_run_sound hp_co V_es_trapezoid C (fun _ _ _ _ _ _ _ hq => hq) [] 30 _ _ _ _ _ _ _ ?_
  refine And.intro ⟨0, _, hS.1, rfl⟩ ?_
  refine ic_P (c_es_needLayer l h _ _ _ (nI L) hS.1 (lay_ok hO hL).1 (lay_ok hO hL).2) (Nat.le_add_left _ _) (Nat.le_add_left _ _) ?_
  refine ic_P (c_es_needIndex l h (nI w) 4 (nI_pos (by omega)) (nI_ge (b := 4) hw (by decide))) (Nat.le_add_left _ _) (Nat.le_add_left _ _) ?_
  refine Exists.intro _ (And.intro hS.1 ?_)
  refine And.intro ⟨0, _, hS.1, rfl⟩ ?_
  refine ic_Q (c_es_areaOf l h s L 72 hO hS hL (Or.inl rfl)) (Nat.le_add_left _ _) (Nat.le_add_left _ _) (fun r h2 hq => ?_)
  obtain ⟨b, f, rfl, hb2, hf, hsh, hx1, hS2⟩ := hq
  have hr := rw_of hsh hF
  have hM := c_li_boxFact l h2 b y x w hy hx2 hw f hf (by rw [bxs_eq hr hy]; exact hb)
  rw [byn_eq hr (by omega), bxs_eq hr hy, xbf_eq hr hy] at hM
  refine ic_P hM (Nat.le_add_left _ _) (Nat.le_add_left _ _) ?_
  exact And.intro rfl (And.intro rfl ⟨rfl, hxC_area (Or.inl rfl) hx1, hS2⟩)
set_option maxRecDepth 20000 in
theorem k_trap_1k (l : Launch) (s : St) (L w : Nat) (k : Int32) (v : Value) (hO : stOK s) (hL : L < s_B s + s_m s) (hw : w < 4) (F : Nat → Int64) (hF : shw s L F) (hk : k < 0 ∨ nI (byn F 64) ≤ k) : clsM l Y_es_trapezoid [.int (nI L), .int k, .int (nI w)] s 1 v s := by
  intro h hS
  refine hp_start (T := T_es_trapezoid) (by decide) rfl (fun σ => Nat.le_of_ble_eq_true rfl) (fun G C => ?_)
  refine hp_run_sound hp_co V_es_trapezoid C (fun _ _ _ _ _ _ _ hq => hq) [] 30 _ _ _ _ _ _ _ ?_
  refine And.intro ⟨0, _, hS.1, rfl⟩ ?_
  refine ic_P (c_es_needLayer l h _ _ _ (nI L) hS.1 (lay_ok hO hL).1 (lay_ok hO hL).2) (Nat.le_add_left _ _) (Nat.le_add_left _ _) ?_
  refine ic_P (c_es_needIndex l h (nI w) 4 (nI_pos (by omega)) (nI_ge (b := 4) hw (by decide))) (Nat.le_add_left _ _) (Nat.le_add_left _ _) ?_
  refine Exists.intro _ (And.intro hS.1 ?_)
  refine And.intro ⟨0, _, hS.1, rfl⟩ ?_
  refine ic_Q (c_es_areaOf l h s L 72 hO hS hL (Or.inl rfl)) (Nat.le_add_left _ _) (Nat.le_add_left _ _) (fun r h2 hq => ?_)
  obtain ⟨b, f, rfl, hb2, hf, hsh, hx1, hS2⟩ := hq
  have hr := rw_of hsh hF
  refine ic_P (c_li_boxFact_no l h2 b w k f hf (by rw [byn_eq hr (by omega)]; exact hk)) (Nat.le_refl _) (Nat.le_refl _) ?_
  exact ⟨rfl, hxC_area (Or.inl rfl) hx1, hS2⟩
