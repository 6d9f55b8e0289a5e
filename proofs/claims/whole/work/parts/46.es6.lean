/-! edge, trapezoid -/
theorem rw_of {s : St} {L : Nat} {f F : Nat → Int64} (h1 : shw s L f) (h2 : shw s L F) : rwN f = rwN F := funext fun y => by
  unfold rwN
  by_cases q : y < 64
  · rw [if_pos q, if_pos q]
    exact bb_ext (fun x hx2 => (h1 y x q hx2).trans (h2 y x q hx2).symm)
  · rw [if_neg q, if_neg q]
theorem rwB_eq {f F : Nat → Int64} (h : rwN f = rwN F) : rwB f = rwB F := funext fun y => by unfold rwB; rw [h]
theorem xab_eq {f F : Nat → Int64} (h : rwN f = rwN F) : xab f = xab F := funext fun y => by unfold xab; rw [h, rwB_eq h]
theorem xbe_eq {f F : Nat → Int64} (h : rwN f = rwN F) : xbe f = xbe F := funext fun y => by unfold xbe; rw [h, rwB_eq h]
theorem xls_eq {f F : Nat → Int64} (h : rwN f = rwN F) : xls f = xls F := funext fun y => by unfold xls; rw [xab_eq h, xbe_eq h]
theorem lyn_eq {f F : Nat → Int64} (h : rwN f = rwN F) : lyn f = lyn F := by unfold lyn; rw [xls_eq h]
theorem xlf_eq {f F : Nat → Int64} (h : rwN f = rwN F) (y x w : Nat) : xlf f y x w = xlf F y x w := by unfold xlf; rw [xab_eq h, xbe_eq h]
theorem xtu_eq {f F : Nat → Int64} (h : rwN f = rwN F) : rwN (xtu f) = rwN (xtu F) := funext fun y => by
  unfold rwN
  by_cases q : y < 64
  · rw [if_pos q, if_pos q]
    refine bb_ext (fun x hx2 => ?_)
    have e := congrFun h x
    unfold rwN at e
    rw [if_pos hx2, if_pos hx2] at e
    rw [bb_xtu _ q hx2, bb_xtu _ q hx2, e]
  · rw [if_neg q, if_neg q]
def tuf (w : Nat) : Nat := match w with
  | 0 => 1
  | 1 => 0
  | 2 => 3
  | 3 => 2
  | w => w
theorem tuf_lt : ∀ w, w < 5 → tuf w < 5 := by decide
set_option maxRecDepth 20000 in
theorem k_edge_1a (l : Launch) (s : St) (x k w : Int32) (v : Value) (hx0 : (x < 0 ∨ nI (s_B s + s_m s) ≤ x) ∨ (w < 0 ∨ 5 ≤ w)) : clsM l Y_es_edge [.int x, .int k, .int w] s 1 v s := by
  intro h hS
  refine hp_start (T := T_es_edge) (by decide) rfl (fun σ => Nat.le_of_ble_eq_true rfl) (fun G C => ?_)
  refine hp_run_sound hp_co V_es_edge C (fun _ _ _ _ _ _ _ hq => hq) [] 12 _ _ _ _ _ _ _ ?_
  refine And.intro ⟨0, _, hS.1, rfl⟩ ?_
  by_cases c : x < 0 ∨ nI (s_B s + s_m s) ≤ x
  · refine ic_P (c_es_needLayer_no l h _ _ _ x hS.1 c) (Nat.le_refl _) (Nat.le_refl _) ?_
    exact ⟨rfl, hxC_rf h, hS⟩
  · refine ic_P (c_es_needLayer l h _ _ _ x hS.1 (fun q => c (Or.inl q)) (fun q => c (Or.inr q))) (Nat.le_add_left _ _) (Nat.le_add_left _ _) ?_
    refine ic_P (c_es_needIndex_no l h w 5 (by rcases hx0 with e | e; exact absurd e c; exact e)) (Nat.le_refl _) (Nat.le_refl _) ?_
    exact ⟨rfl, hxC_rf h, hS⟩
set_option maxRecDepth 20000 in
theorem k_edge_l (l : Launch) (s : St) (L w y x : Nat) (hO : stOK s) (hL : L < s_B s + s_m s) (hw : w < 5) (F : Nat → Int64) (hF : shw s L F) (hy : y ≤ 64) (hx2 : x < 64) (hb : bb (xls F y) x = true) : clsM l Y_es_edge [.int (nI L), .int (nI (lyn F y + cn (bb (xls F y)) x)), .int (nI w)] s 0 (.int (xlf F y x w)) s := by
  intro h hS
  refine hp_start (T := T_es_edge) (by decide) rfl (fun σ => Nat.le_of_ble_eq_true rfl) (fun G C => ?_)
  refine hp_run_sound hp_co V_es_edge C (fun _ _ _ _ _ _ _ hq => hq) [] 30 _ _ _ _ _ _ _ ?_
  refine And.intro ⟨0, _, hS.1, rfl⟩ ?_
  refine ic_P (c_es_needLayer l h _ _ _ (nI L) hS.1 (lay_ok hO hL).1 (lay_ok hO hL).2) (Nat.le_add_left _ _) (Nat.le_add_left _ _) ?_
  refine ic_P (c_es_needIndex l h (nI w) 5 (nI_pos (by omega)) (nI_ge (b := 5) hw (by decide))) (Nat.le_add_left _ _) (Nat.le_add_left _ _) ?_
  refine Exists.intro _ (And.intro hS.1 ?_)
  refine And.intro ⟨0, _, hS.1, rfl⟩ ?_
  refine ic_Q (c_es_areaOf l h s L 72 hO hS hL (Or.inl rfl)) (Nat.le_add_left _ _) (Nat.le_add_left _ _) (fun r h2 hq => ?_)
  obtain ⟨b, f, rfl, hb2, hf, hsh, hx1, hS2⟩ := hq
  have hr := rw_of hsh hF
  rw [← lyn_eq hr, ← xls_eq hr, ← xlf_eq hr] at *
  refine ic_P (c_li_countLying l h2 b f hf) (Nat.le_add_left _ _) (Nat.le_add_left _ _) ?_
  have h1 : lyn f (y + 1) ≤ lyn f 65 := sm_mono _ (by omega)
  have h3 := lyn_s f y
  have h4 := cn_in hx2 hb
  have h5 := lyn_le f (y := 65) (by omega)
  refine And.intro (fun q => absurd q (nI_ge (by omega) (by omega))) (fun q => ?_)
  refine ic_P (c_li_lyingFact l h2 b y x w hy hx2 hw f hf hb) (Nat.le_add_left _ _) (Nat.le_add_left _ _) ?_
  exact And.intro rfl (And.intro rfl ⟨rfl, hxC_area (Or.inl rfl) hx1, hS2⟩)
