/-! edge, trapezoid -/
theorem rw_of {s : St} {L : Nat} {f F : Nat → Int64} (h1 : shw s L f) (h2 : shw s L F) : rwN f = rwN F := funext fun y => by
  unfold rwN
  by_cases q : y < 64
  · rw [if_pos q, if_pos q]
    exact bb_ext (fun x hx2 => (h1 y x q hx2).trans (h2 y x q hx2).symm)
  · rw [if_neg q, if_neg q]
theorem rwB_eq {f F : Nat → Int64} (h : rwN f = rwN F) : rwB f = rwB F := funext fun y => by unfold rwB; rw [h]
theorem xab_eq {f F : Nat → Int64} (h : rwN f = rwN F) : xab f = xab F := funext fun y => by unfold xab; rw [h, rwB_eq h]
theorem xbe_eq {f F : Nat → Int64} (h : rwN f = rwN F) : xbe f = xbe F := funext fun y => by unfold xbe; rw [h, rwB_eq h]
theorem xls_eq {f F : Nat → Int64} (h : rwN f = rwN F) : xls f = xls F := funext fun y => by unfold xls; rw [xab_eq h, xbe_eq h]
theorem lyn_eq {f F : Nat → Int64} (h : rwN f = rwN F) : lyn f = lyn F := by unfold lyn; rw [xls_eq h]
theorem xlf_eq {f F : Nat → Int64} (h : rwN f = rwN F) (y x w : Nat) : xlf f y x w = xlf F y x w := by unfold xlf; rw [xab_eq h, xbe_eq h]
theorem xtu_eq {f F : Nat → Int64} (h : rwN f = rwN F) : rwN (xtu f) = rwN (xtu F) := funext fun y => by
  unfold rwN
  by_cases q : y < 64
  · rw [if_pos q, if_pos q]
    refine bb_ext (fun x hx2 => ?_)
    have e := congrFun h x
    unfold rwN at e
    rw [if_pos hx2, if_pos hx2] at e
    rw [bb_xtu _ q hx2, bb_xtu _ q hx2, e]
  · rw [if_neg q, if_neg q]
def tuf (w : Nat) : Nat := match w with
  | 0 => 1
  | 1 => 0
  | 2 => 3
  | 3 => 2
  | w => w
theorem tuf_lt : ∀ w, w < 5 → tuf w < 5 := by decide
set_option maxRecDepth 20000 in
theorem k_edge_1a (l : Launch) (s : St) (x k w : Int32) (v : Value) (hx0 : (x < 0 ∨ nI (s_B s + s_m s) ≤ x) ∨ (w < 0 ∨ 5 ≤ w)) : clsM l Y_es_edge [.int x, .int k, .int w] s 1 v s := by
  intro h hS
  refine hp_start (T := T_es_edge) (by decide) rfl (fun σ => Nat.le_of_ble_eq_true rfl) (fun G C => ?_)
  refine hp_run_sound hp_co V_es_edge C (fun _ _ _ _ _ _ _ hq => hq) [] 12 _ _ _ _ _ _ _ ?_
  refine And.intro ⟨0, _, hS.1, rfl⟩ ?_
  by_cases c : x < 0 ∨ nI (s_B s + s_m s) ≤ x
  · refine ic_P (c_es_needLayer_no l h _ _ _ x hS.1 c) (Nat.le_refl _) (Nat.le_refl _) ?_
    exact ⟨rfl, hxC_rf h, hS⟩
  · refine ic_P (c_es_needLayer l h _ _ _ x hS.1 (fun q => c (Or.inl q)) (fun q => c (Or.inr q))) (Nat.le_add_left _ _) (Nat.le_add_left _ _) ?_
    refine ic_P (c_es_needIndex_no l h w 5 (by rcases hx0 with e | e; exact absurd e c; exact e)) (Nat.le_refl _) (Nat.le_refl _) ?_
    exact ⟨rfl, hxC_rf h, hS⟩
set_option maxRecDepth 20000 in
theorem k_edge_l (l : Launch) (s : St) (L w y x : Nat) (hO : stOK s) (hL : L < s_B s + s_m s) (hw : w < 5) (F : Nat → Int64) (hF : shw s L F) (hy : y ≤ 64) (hx2 : x < 64) (hb : bb (xls F y) x = true) : clsM l Y_es_edge [.int (nI L), .int (nI (lyn F y + cn (bb (xls F y)) x)), .int (nI w)] s 0 (.int (xlf F y x w)) s := by
  intro h hS
  refine hp_start (T := T_es_edge) (by decide) rfl (fun σ => Nat.le_of_ble_eq_true rfl) (fun G C => ?_)
  refine hp_run_sound hp_co V_es_edge C (fun _ _ _ _ _ _ _ hq => hq) [] 30 _ _ _ _ _ _ _ ?_
  refine And.intro ⟨0, _, hS.1, rfl⟩ ?_
  refine ic_P (c_es_needLayer l h _ _ _ (nI L) hS.1 (lay_ok hO hL).1 (lay_ok hO hL).2) (Nat.le_add_left _ _) (Nat.le_add_left _ _) ?_
  refine ic_P (c_es_needIndex l h (nI w) 5 (nI_pos (by omega)) (nI_ge (b := 5) hw (by decide))) (Nat.le_add_left _ _) (Nat.le_add_left _ _) ?_
  refine Exists.intro _ (And.intro hS.1 ?_)
  refine And.intro ⟨0, _, hS.1, rfl⟩ ?_
  refine ic_Q (c_es_areaOf l h s L 72 hO hS hL (Or.inl rfl)) (Nat.le_add_left _ _) (Nat.le_add_left _ _) (fun r h2 hq => ?_)
  obtain ⟨b, f, rfl, hb2, hf, hsh, hx1, hS2⟩ := hq
  have hr := rw_of hsh hF
  rw [← lyn_eq hr, ← xls_eq hr, ← xlf_eq hr] at *
  refine ic_P (c_li_countLying l h2 b f hf) (Nat.le_add_left _ _) (Nat.le_add_left _ _) ?_
  have h1 : lyn f (y + 1) ≤ lyn f 65 := sm_mono _ (by omega)
  have h3 := lyn_s f y
  have h4 := cn_in hx2 hb
  have h5 := lyn_le f (y := 65) (by omega)
  refine And.intro (fun q => absurd q (nI_ge (by omega) (by omega))) (fun q => ?_)
  refine ic_P (c_li_lyingFact l h2 b y x w hy hx2 hw f hf hb) (Nat.le_add_left _ _) (Nat.le_add_left _ _) ?_
  exact And.intro rfl (And.intro rfl ⟨rfl, hxC_area (Or.inl rfl) hx1, hS2⟩)
theorem c_tuf (l : Launch) (h : hp_H) : ∀ (w : Nat) (_ : w < 5), hp_M l Y_li_turnedFact [.int (nI w)] h true 0 0 (hq_P (.inl (some (.int (nI (tuf w))))) h)
  | 0, hw => c_li_turnedFact l h 0 hw
  | 1, hw => c_li_turnedFact l h 1 hw
  | 2, hw => c_li_turnedFact l h 2 hw
  | 3, hw => c_li_turnedFact l h 3 hw
  | 4, hw => c_li_turnedFact l h 4 hw
  | n + 5, hw => absurd hw (by omega)
/-- what copy and turn leave in place 74 -/
theorem turn_rw {f e : Nat → Int64} : rwN (xtu (fun j => if j < 64 then f j else e j)) = rwN (xtu f) := funext fun y => by
  unfold rwN
  by_cases q : y < 64
  · rw [if_pos q, if_pos q]
    refine bb_ext (fun x hx2 => ?_)
    rw [bb_xtu _ q hx2, bb_xtu _ q hx2]
    show bb (if x < 64 then f x else e x) y = _
    rw [if_pos hx2]
  · rw [if_neg q, if_neg q]
theorem esS_74 {h : hp_H} {s : St} (hS : esS h s) (f : Nat → Int64) : esS (h.set 74 (LA 64 f)) s := by
  have x1 : hx [74] h (h.set 74 (LA 64 f)) := hx_set (hx_rf _ _) _ (by decide)
  obtain ⟨w1, w2, w3, w4, w5, w6, w7, w8, w9, w10, ⟨w11, v11⟩⟩ := id hS.2.2.2.2
  exact esS_hx hS (hx_tr x1 (hx_rf [] _) _ (by decide) (by decide)) (wkS_hx x1 hS.2.2.2.2 (Or.inl (by decide)) (Or.inl (by decide)) (Or.inl (by decide)) (Or.inl (by decide)) (Or.inl (by decide)) (Or.inl (by decide)) (Or.inl (by decide)) (Or.inl (by decide)) (Or.inl (by decide)) (Or.inl (by decide)) (Or.inr ⟨_, hq_get v11⟩))
set_option maxRecDepth 20000 in
theorem k_edge_s (l : Launch) (s : St) (L w y x : Nat) (hO : stOK s) (hL : L < s_B s + s_m s) (hw : w < 5) (F : Nat → Int64) (hF : shw s L F) (hy : y ≤ 64) (hx2 : x < 64) (hb : bb (xls (xtu F) y) x = true) : clsM l Y_es_edge [.int (nI L), .int (nI (lyn F 65 + (lyn (xtu F) y + cn (bb (xls (xtu F) y)) x))), .int (nI w)] s 0 (.int (xlf (xtu F) y x (tuf w))) s := by
  intro h hS
  refine hp_start (T := T_es_edge) (by decide) rfl (fun σ => Nat.le_of_ble_eq_true rfl) (fun G C => ?_)
  refine hp_run_sound hp_co V_es_edge C (fun _ _ _ _ _ _ _ hq => hq) [] 50 _ _ _ _ _ _ _ ?_
  refine And.intro ⟨0, _, hS.1, rfl⟩ ?_
  refine ic_P (c_es_needLayer l h _ _ _ (nI L) hS.1 (lay_ok hO hL).1 (lay_ok hO hL).2) (Nat.le_add_left _ _) (Nat.le_add_left _ _) ?_
  refine ic_P (c_es_needIndex l h (nI w) 5 (nI_pos (by omega)) (nI_ge (b := 5) hw (by decide))) (Nat.le_add_left _ _) (Nat.le_add_left _ _) ?_
  refine Exists.intro _ (And.intro hS.1 ?_)
  refine And.intro ⟨0, _, hS.1, rfl⟩ ?_
  refine ic_Q (c_es_areaOf l h s L 72 hO hS hL (Or.inl rfl)) (Nat.le_add_left _ _) (Nat.le_add_left _ _) (fun r h2 hq => ?_)
  obtain ⟨b, f, rfl, hb2, hf, hsh, hx1, hS2⟩ := hq
  have hr := rw_of hsh hF
  refine ic_P (c_li_countLying l h2 b f hf) (Nat.le_add_left _ _) (Nat.le_add_left _ _) ?_
  rw [lyn_eq hr]
  have h5 := lyn_le F (y := 65) (by omega)
  have h6 := lyn_le (xtu F) (y := y) (by omega)
  have h7 := cn_le (bb (xls (xtu F) y)) x
  refine And.intro (fun q => ?_) (fun q => absurd (nI_le (by omega) (by omega)) q)
  refine Exists.intro _ (And.intro hS2.1 ?_)
  obtain ⟨w1, w2, w3, w4, w5, w6, w7, w8, w9, w10, ⟨e, v11⟩⟩ := id hS2.2.2.2.2
  refine ic_P (c_ro_copy l h2 b 74 f e hf v11) (Nat.le_add_left _ _) (Nat.le_add_left _ _) ?_
  have hS3 := esS_74 hS2 (fun j => if j < 64 then f j else e j)
  refine Exists.intro _ (And.intro hS3.1 ?_)
  refine ic_P (c_ro_turn l _ 74 _ (hq_get v11)) (Nat.le_add_left _ _) (Nat.le_add_left _ _) ?_
  have hS4 := esS_74 hS3 (xtu (fun j => if j < 64 then f j else e j))
  refine Exists.intro _ (And.intro hS4.1 ?_)
  refine ic_P (c_tuf l _ w hw) (Nat.le_add_left _ _) (Nat.le_add_left _ _) ?_
  have hr2 : rwN (xtu (fun j => if j < 64 then f j else e j)) = rwN (xtu F) := turn_rw.trans (xtu_eq hr)
  have hM := c_li_lyingFact l ((h2.set 74 (LA 64 (fun j => if j < 64 then f j else e j))).set 74 (LA 64 (xtu (fun j => if j < 64 then f j else e j)))) 74 y x (tuf w) hy hx2 (tuf_lt w hw) _ (hq_get (hq_get v11)) (by rw [xls_eq hr2]; exact hb)
  rw [lyn_eq hr2, xls_eq hr2, xlf_eq hr2, show nI (lyn (xtu F) y + cn (bb (xls (xtu F) y)) x) = nI (lyn F 65 + (lyn (xtu F) y + cn (bb (xls (xtu F) y)) x)) - nI (lyn F 65) by rw [pk_sub (by omega), Nat.add_sub_cancel_left]] at hM
  refine ic_P hM (Nat.le_add_left _ _) (Nat.le_add_left _ _) ?_
  refine And.intro rfl (And.intro rfl ⟨rfl, hxC_tr (hxC_area (Or.inl rfl) hx1) (hxC_of (ps := [74]) (hx_set (hx_set (hx_rf _ _) _ (by decide)) _ (by decide)) (by decide)), hS4⟩)
