/-! EdgeSweeps' public methods: code 0 is an answer, code c + 1 a throw of exception c -/
def ans (c : Nat) (v : Value) (r : hp_R) : Prop := match c with
  | 0 => r = .inl (some v)
  | c + 1 => r = .inr c
def hxC (h h' : hp_H) : Prop := h'.length = h.length ∧ ∀ q, (q = 0 ∨ 75 ≤ q) → h'[q]? = h[q]?
theorem hxC_rf (h : hp_H) : hxC h h := ⟨rfl, fun _ _ => rfl⟩
theorem hxC_tr {h h' h'' : hp_H} (a : hxC h h') (b : hxC h' h'') : hxC h h'' := ⟨b.1.trans a.1, fun q hq => (b.2 q hq).trans (a.2 q hq)⟩
theorem hxC_of {ps : List Nat} {h h' : hp_H} (a : hx ps h h') (hp : ∀ q ∈ ps, 1 ≤ q ∧ q < 75) : hxC h h' := ⟨a.1, fun q hq => a.2 q (fun e => by have := hp q e; omega)⟩
def clsM (l : Launch) (Y : hp_Y) (av : List Value) (s : St) (c : Nat) (v : Value) (s' : St) : Prop := ∀ h, esS h s → hp_M l Y (.ref 1 :: av) h false 1 6 (fun r h' => ans c v r ∧ hxC h h' ∧ esS h' s')
abbrev St' (B m n c : Nat) (lay k : Nat → Nat) (X Y : Nat → Nat → Nat) (D : Nat → Nat → Int64) : St := (B, m, n, c, lay, k, X, Y, D)
theorem wkS_lo {h h' : hp_H} {ps : List Nat} (hH : hx ps h h') (hw : wkS h) (hp : ∀ q ∈ ps, q < 39 ∨ (40 ≤ q ∧ q < 65)) : wkS h' := by
  have m : ∀ q, q = 39 ∨ 65 ≤ q → q ∉ ps := fun q hq e => by have := hp q e; omega
  exact wkS_hx hH hw (Or.inl (m _ (by omega))) (Or.inl (m _ (by omega))) (Or.inl (m _ (by omega))) (Or.inl (m _ (by omega))) (Or.inl (m _ (by omega))) (Or.inl (m _ (by omega))) (Or.inl (m _ (by omega))) (Or.inl (m _ (by omega))) (Or.inl (m _ (by omega))) (Or.inl (m _ (by omega))) (Or.inl (m _ (by omega)))
theorem poS_1 {h : hp_H} {c : Nat} {lay k : Nat → Nat} {X Y : Nat → Nat → Nat} (hS : poS h c lay k X Y) (d : hp_C) : poS (h.set 1 d) c lay k X Y := by
  obtain ⟨a1, a2, a3, a4, a5, a6, a7⟩ := hS
  exact ⟨by rw [hq_ne (by decide)]; exact a1, by rw [hq_ne (by decide)]; exact a2, by rw [hq_ne (by decide)]; exact a3, by rw [hq_ne (by decide)]; exact a4, fun p hp => by rw [hq_ne (by omega)]; exact a5 p hp, by rw [hq_ne (by decide)]; exact a6, fun p hp => by rw [hq_ne (by omega)]; exact a7 p hp⟩
theorem esS_1 {h : hp_H} {s : St} (hS : esS h s) (m n : Nat) : esS (h.set 1 (ES (s_B s) m n)) (St' (s_B s) m n (s_c s) (s_lay s) (s_k s) (s_X s) (s_Y s) (s_D s)) := by
  obtain ⟨a1, a2, a3, a4, a5⟩ := hS
  exact ⟨hq_get a1, poS_1 a2 _, by rw [hq_ne (by decide)]; exact a3, fun i hi => by rw [hq_ne (by omega)]; exact a4 i hi, wkS_lo (hx_set (hx_rf [1] h) _ (by decide)) a5 (by decide)⟩
/-- where the polygons' cells changed -/
theorem esS_po {h h' : hp_H} {s : St} (hS : esS h s) {ps : List Nat} (hH : hx ps h h') (hp : ∀ q ∈ ps, 2 ≤ q ∧ q < 39) {c : Nat} {lay k : Nat → Nat} {X Y : Nat → Nat → Nat} (hP : poS h' c lay k X Y) : esS h' (St' (s_B s) (s_m s) (s_n s) c lay k X Y (s_D s)) := by
  obtain ⟨a1, a2, a3, a4, a5⟩ := hS
  have m : ∀ q, q < 2 ∨ 39 ≤ q → q ∉ ps := fun q hq e => by have := hp q e; omega
  exact ⟨hx_at hH (m _ (by omega)) a1, hP, hx_at hH (m _ (by omega)) a3, fun i hi => hx_at hH (m _ (by omega)) (a4 i hi), wkS_lo hH a5 (fun q hq => by have := hp q hq; omega)⟩
set_option maxRecDepth 20000 in
theorem k_polygon_1 (l : Launch) (s : St) (x : Int32) (v : Value) (hx0 : x < 0 ∨ nI (s_B s) ≤ x) : clsM l Y_es_polygon [.int x] s 1 v s := by
  intro h hS
  refine hp_start (T := T_es_polygon) (by decide) rfl (fun σ => Nat.le_of_ble_eq_true rfl) (fun G C => ?_)
  have thr : ∀ lv, hp_W G 8 lv [] h true 0 0 := fun lv => hq_throw (ik := 62) (is := 64) (ic := 66) (ci := 0) (text := "no such base layer") V_es_polygon C tw_es0 (by decide) rfl rfl rfl rfl rfl rfl (by decide) (by decide) (by decide) (by decide) ⟨rfl, hxC_rf h, hS⟩
  refine hp_run_sound hp_co V_es_polygon C (fun _ _ _ _ _ _ _ hq => hq) [8] 12 _ _ _ _ _ _ _ ?_
  refine And.intro ⟨0, _, hS.1, rfl⟩ ?_
  refine ic_P (c_es_isBase l h _ _ _ x hS.1) (Nat.le_add_left _ _) (Nat.le_add_left _ _) ?_
  rw [decide_eq_false (fun e => by rcases hx0 with q | q; exact e.1 q; exact e.2 q)]
  exact And.intro (fun q => absurd rfl q) (fun q => thr _)
set_option maxRecDepth 20000 in
theorem k_polygon_2 (l : Launch) (s : St) (x : Int32) (v : Value) (h1 : ¬ x < 0) (h2 : ¬ nI (s_B s) ≤ x) (hc : s_c s = 16) : clsM l Y_es_polygon [.int x] s 2 v s := by
  intro h hS
  refine hp_start (T := T_es_polygon) (by decide) rfl (fun σ => Nat.le_of_ble_eq_true rfl) (fun G C => ?_)
  have thr : ∀ lv, hp_W G 28 lv [] h true 0 0 := fun lv => hq_throw (ik := 73) (is := 75) (ic := 77) (ci := 1) (text := "there are 16 polygons") V_es_polygon C tw_es1 (by decide) rfl rfl rfl rfl rfl rfl (by decide) (by decide) (by decide) (by decide) ⟨rfl, hxC_rf h, hS⟩
  refine hp_run_sound hp_co V_es_polygon C (fun _ _ _ _ _ _ _ hq => hq) [28] 20 _ _ _ _ _ _ _ ?_
  refine And.intro ⟨0, _, hS.1, rfl⟩ ?_
  refine ic_P (c_es_isBase l h _ _ _ x hS.1) (Nat.le_add_left _ _) (Nat.le_add_left _ _) ?_
  rw [decide_eq_true ⟨h1, h2⟩]
  refine And.intro (fun q => ?_) (fun q => absurd q (by decide))
  refine Exists.intro _ (And.intro hS.1 ?_)
  refine And.intro ⟨1, _, hS.2.1.1, rfl⟩ ?_
  refine ic_P (c_po_isFull l h _ (by omega) hS.2.1.1) (Nat.le_add_left _ _) (Nat.le_add_left _ _) ?_
  rw [decide_eq_true (by omega : 16 ≤ s_c s)]
  exact And.intro (fun q => absurd q (by decide)) (fun q => thr _)
set_option maxRecDepth 20000 in
theorem k_polygon_0 (l : Launch) (s : St) (L : Nat) (hB : s_B s ≤ 65536) (hL : L < s_B s) (hc : s_c s < 16) : clsM l Y_es_polygon [.int (nI L)] s 0 (.int (nI (s_c s))) (St' (s_B s) (s_m s) (s_n s) (s_c s + 1) (updN (s_lay s) (s_c s) L) (updN (s_k s) (s_c s) 0) (s_X s) (s_Y s) (s_D s)) := by
  intro h hS
  refine hp_start (T := T_es_polygon) (by decide) rfl (fun σ => Nat.le_of_ble_eq_true rfl) (fun G C => ?_)
  refine hp_run_sound hp_co V_es_polygon C (fun _ _ _ _ _ _ _ hq => hq) [] 30 _ _ _ _ _ _ _ ?_
  refine And.intro ⟨0, _, hS.1, rfl⟩ ?_
  refine ic_P (c_es_isBase l h _ _ _ (nI L) hS.1) (Nat.le_add_left _ _) (Nat.le_add_left _ _) ?_
  rw [decide_eq_true ⟨nI_pos (by omega), nI_ge hL (by omega)⟩]
  refine And.intro (fun q => ?_) (fun q => absurd q (by decide))
  refine Exists.intro _ (And.intro hS.1 ?_)
  refine And.intro ⟨1, _, hS.2.1.1, rfl⟩ ?_
  refine ic_P (c_po_isFull l h _ (by omega) hS.2.1.1) (Nat.le_add_left _ _) (Nat.le_add_left _ _) ?_
  rw [decide_eq_false (by omega : ¬ 16 ≤ s_c s)]
  refine And.intro (fun q => ?_) (fun q => absurd rfl q)
  refine Exists.intro _ (And.intro hS.1 ?_)
  refine And.intro ⟨1, _, hS.2.1.1, rfl⟩ ?_
  refine ic_Q (c_po_start l h _ L hc _ _ _ _ hS.2.1) (Nat.le_add_left _ _) (Nat.le_add_left _ _) (fun r h2 hq => ?_)
  obtain ⟨rfl, x2, hP⟩ := hq
  exact And.intro rfl (And.intro rfl (And.intro rfl ⟨hxC_of x2 (by decide), esS_po hS x2 (by decide) hP⟩))
