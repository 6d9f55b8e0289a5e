/-! rows that show the same squares; op 0 to 3 -/
theorem qs_eq {f F : Nat → Int64} (h : rwN f = rwN F) {k : Nat} (hk : k < 4096) : qs f k = qs F k := by
  unfold qs
  rw [row_eq h (show k / 64 < 64 by omega)]
theorem adj_eq {f F : Nat → Int64} (h : rwN f = rwN F) {d a b : Nat} (q : adj f d a b) : adj F d a b := ⟨by rw [← qs_eq h q.2.2.1]; exact q.1, by rw [← qs_eq h q.2.2.2.1]; exact q.2.1, q.2.2.1, q.2.2.2.1, q.2.2.2.2⟩
theorem con_eq {f F : Nat → Int64} (h : rwN f = rwN F) {d a b : Nat} : cnx (adj f d) a b ↔ cnx (adj F d) a b := ⟨cnx_mono (fun _ _ q => cnx_of (adj_eq h q)), cnx_mono (fun _ _ q => cnx_of (adj_eq h.symm q))⟩
theorem isF_eq {f F : Nat → Int64} (h : rwN f = rwN F) {d : Nat} {fi : Nat → Bool} (hF : isF F d fi) : isF f d fi := fun k hk => by
  rw [hF k hk, qs_eq h hk]
  refine ⟨fun q => ⟨q.1, fun j hj qj c => q.2 j hj (by rw [← qs_eq h (by omega)]; exact qj) ((con_eq h).mp c)⟩, fun q => ⟨q.1, fun j hj qj c => q.2 j hj (by rw [qs_eq h (by omega)]; exact qj) ((con_eq h).mpr c)⟩⟩
set_option maxRecDepth 20000 in
theorem k_op_1 (l : Launch) (s : St) (w a b : Int32) (v : Value) (hab : (a < 0 ∨ nI (s_B s + s_m s) ≤ a) ∨ (b < 0 ∨ nI (s_B s + s_m s) ≤ b)) : clsM l Y_es_op [.int w, .int a, .int b] s 1 v s := by
  intro h hS
  refine hp_start (T := T_es_op) (by decide) rfl (fun σ => Nat.le_of_ble_eq_true rfl) (fun G C => ?_)
  refine hp_run_sound hp_co V_es_op C (fun _ _ _ _ _ _ _ hq => hq) [] 6 _ _ _ _ _ _ _ ?_
  by_cases h1 : a < 0 ∨ nI (s_B s + s_m s) ≤ a
  · refine And.intro ⟨0, _, hS.1, rfl⟩ ?_
    refine ic_P (c_es_needLayer_no l h _ _ _ a hS.1 h1) (Nat.le_refl _) (Nat.le_refl _) ?_
    exact ⟨rfl, hxC_rf h, hS⟩
  · have h2 := hab.resolve_left h1
    refine And.intro ⟨0, _, hS.1, rfl⟩ ?_
    refine ic_P (c_es_needLayer l h _ _ _ a hS.1 (fun q => h1 (Or.inl q)) (fun q => h1 (Or.inr q))) (Nat.le_add_left _ _) (Nat.le_add_left _ _) ?_
    refine And.intro ⟨0, _, hS.1, rfl⟩ ?_
    refine ic_P (c_es_needLayer_no l h _ _ _ b hS.1 h2) (Nat.le_refl _) (Nat.le_refl _) ?_
    exact ⟨rfl, hxC_rf h, hS⟩
set_option maxRecDepth 20000 in
theorem k_op_2 (l : Launch) (s : St) (w : Int32) (A B : Nat) (v : Value) (hO : stOK s) (hA : A < s_B s + s_m s) (hB : B < s_B s + s_m s) (hm : s_m s = 24) : clsM l Y_es_op [.int w, .int (nI A), .int (nI B)] s 2 v s := by
  intro h hS
  refine hp_start (T := T_es_op) (by decide) rfl (fun σ => Nat.le_of_ble_eq_true rfl) (fun G C => ?_)
  refine hp_run_sound hp_co V_es_op C (fun _ _ _ _ _ _ _ hq => hq) [] 10 _ _ _ _ _ _ _ ?_
  refine And.intro ⟨0, _, hS.1, rfl⟩ ?_
  refine ic_P (c_es_needLayer l h _ _ _ _ hS.1 (lay_ok hO hA).1 (lay_ok hO hA).2) (Nat.le_add_left _ _) (Nat.le_add_left _ _) ?_
  refine And.intro ⟨0, _, hS.1, rfl⟩ ?_
  refine ic_P (c_es_needLayer l h _ _ _ _ hS.1 (lay_ok hO hB).1 (lay_ok hO hB).2) (Nat.le_add_left _ _) (Nat.le_add_left _ _) ?_
  refine And.intro ⟨0, _, hS.1, rfl⟩ ?_
  refine ic_P (c_es_needRoom_no l h _ _ _ hm hS.1) (Nat.le_refl _) (Nat.le_refl _) ?_
  exact ⟨rfl, hxC_rf h, hS⟩
set_option maxRecDepth 20000 in
theorem k_op_3 (l : Launch) (s : St) (w : Int32) (A B : Nat) (v : Value) (hO : stOK s) (hA : A < s_B s + s_m s) (hB : B < s_B s + s_m s) (hm : s_m s < 24) (hw : w < 0 ∨ 5 < w) : clsM l Y_es_op [.int w, .int (nI A), .int (nI B)] s 3 v s := by
  intro h hS
  refine hp_start (T := T_es_op) (by decide) rfl (fun σ => Nat.le_of_ble_eq_true rfl) (fun G C => ?_)
  have thr : ∀ lv, hp_W G 23 lv [] h true 0 0 := fun lv => hq_throw (ik := 94) (is := 110) (ic := 98) (ci := 2) (text := "no such operation") V_es_op C tw_es2 (by decide) rfl rfl rfl rfl rfl rfl (by decide) (by decide) (by decide) (by decide) ⟨rfl, hxC_rf h, hS⟩
  refine hp_run_sound hp_co V_es_op C (fun _ _ _ _ _ _ _ hq => hq) [23, 33] 20 _ _ _ _ _ _ _ ?_
  refine And.intro ⟨0, _, hS.1, rfl⟩ ?_
  refine ic_P (c_es_needLayer l h _ _ _ _ hS.1 (lay_ok hO hA).1 (lay_ok hO hA).2) (Nat.le_add_left _ _) (Nat.le_add_left _ _) ?_
  refine And.intro ⟨0, _, hS.1, rfl⟩ ?_
  refine ic_P (c_es_needLayer l h _ _ _ _ hS.1 (lay_ok hO hB).1 (lay_ok hO hB).2) (Nat.le_add_left _ _) (Nat.le_add_left _ _) ?_
  refine And.intro ⟨0, _, hS.1, rfl⟩ ?_
  refine ic_P (c_es_needRoom l h _ _ _ hm hS.1) (Nat.le_add_left _ _) (Nat.le_add_left _ _) ?_
  refine And.intro (fun q => thr _) (fun q => And.intro (fun q2 => ?_) (fun q2 => thr _))
  rcases hw with e | e
  · exact absurd e q
  · exact absurd e (Int32.not_lt.mpr q2)
theorem updR_2 (D : Nat → Nat → Int64) (m : Nat) (R R' : Nat → Int64) : updR (updR D m R) m R' = updR D m R' := by
  funext i
  unfold updR
  by_cases c : i = m
  · rw [if_pos c, if_pos c]
  · rw [if_neg c, if_neg c, if_neg c]
/-- op from 33 up to the choice at 66: both areas are there -/
theorem k_op_start (l : Launch) (s : St) (w A B : Nat) (hO : stOK s) (hA : A < s_B s + s_m s) (hB : B < s_B s + s_m s) (hm : s_m s < 24) (hw : w ≤ 5) {h : hp_H} (hS : esS h s) {Q : hp_R → hp_H → Prop} {G : hp_G} (C : hp_ctx T_es_op Y_es_op l false 1 6 Q G)
    (hi : ∀ (b1 b2 : Nat) (f1 f2 : Nat → Int64) (h3 : hp_H), (b1 = 72 ∨ (41 ≤ b1 ∧ b1 < 41 + s_m s)) → (b2 = 73 ∨ (41 ≤ b2 ∧ b2 < 41 + s_m s)) → h3[b1]? = some (LA 64 f1) → h3[b2]? = some (LA 64 f2) → shw s A f1 → shw s B f2 → hxC h h3 → esS h3 s →
      hp_W G 66 [(0, .ref 1), (1, .int (nI w)), (2, .int (nI A)), (3, .int (nI B)), (4, .ref b1), (5, .ref b2), (6, .ref (41 + s_m s))] [] h3 false 0 0) : hp_W G 0 [(0, .ref 1), (1, .int (nI w)), (2, .int (nI A)), (3, .int (nI B))] [] h true 0 0 := by
  refine hp_run_sound hp_co V_es_op C (fun _ _ _ _ _ _ _ hq => hq) [23, 66] 60 _ _ _ _ _ _ _ ?_
  refine And.intro ⟨0, _, hS.1, rfl⟩ ?_
  refine ic_P (c_es_needLayer l h _ _ _ _ hS.1 (lay_ok hO hA).1 (lay_ok hO hA).2) (Nat.le_add_left _ _) (Nat.le_add_left _ _) ?_
  refine And.intro ⟨0, _, hS.1, rfl⟩ ?_
  refine ic_P (c_es_needLayer l h _ _ _ _ hS.1 (lay_ok hO hB).1 (lay_ok hO hB).2) (Nat.le_add_left _ _) (Nat.le_add_left _ _) ?_
  refine And.intro ⟨0, _, hS.1, rfl⟩ ?_
  refine ic_P (c_es_needRoom l h _ _ _ hm hS.1) (Nat.le_add_left _ _) (Nat.le_add_left _ _) ?_
  refine And.intro (fun q => absurd q (nI_pos (by omega))) (fun q => And.intro (fun q2 => ?_) (fun q2 => absurd (nI_le (b := 5) hw (by decide)) q2))
  refine Exists.intro _ (And.intro hS.1 ?_)
  refine And.intro ⟨0, _, hS.1, rfl⟩ ?_
  refine ic_Q (c_es_areaOf l h s A 72 hO hS hA (Or.inl rfl)) (Nat.le_add_left _ _) (Nat.le_add_left _ _) (fun r h2 hq => ?_)
  obtain ⟨b1, f1, rfl, e1, hf1, hs1, hx1, hS2⟩ := hq
  refine Exists.intro _ (And.intro hS2.1 ?_)
  refine And.intro ⟨0, _, hS2.1, rfl⟩ ?_
  refine ic_Q (c_es_areaOf l h2 s B 73 hO hS2 hB (Or.inr rfl)) (Nat.le_add_left _ _) (Nat.le_add_left _ _) (fun r h3 hq => ?_)
  obtain ⟨b2, f2, rfl, e2, hf2, hs2, hx2, hS3⟩ := hq
  refine Exists.intro _ (And.intro hS3.1 ?_)
  refine Exists.intro _ (And.intro hS3.1 ?_)
  refine Exists.intro _ (Exists.intro 24 (Exists.intro _ (And.intro hS3.2.2.1 (And.intro (in_nI hm (by decide)) ?_))))
  rw [nI_clamp (show s_m s < 2 ^ 31 by omega)]
  have nb : ∀ b : Nat, (b = 72 ∨ (41 ≤ b ∧ b < 41 + s_m s)) → b ∉ [39, 73] := fun b e q => by
    have : s_m s < 24 := hm
    simp at q
    omega
  exact hi b1 b2 f1 f2 h3 e1 e2 (hx_at hx2 (nb b1 e1) hf1) hf2 hs1 hs2 (hxC_tr (hxC_area (Or.inl rfl) hx1) (hxC_area (Or.inr rfl) hx2)) hS3
set_option maxRecDepth 20000 in
theorem k_op_0 (l : Launch) (s : St) (w A B : Nat) (hO : stOK s) (hA : A < s_B s + s_m s) (hB : B < s_B s + s_m s) (hm : s_m s < 24) (hw : w < 4) (F E : Nat → Int64) (hF : shw s A F) (hE : shw s B E) :
    clsD l Y_es_op [.int (nI w), .int (nI A), .int (nI B)] s (fun x y => bb (xcb w (F y) (E y)) x) := by
  intro h hS
  refine hp_start (T := T_es_op) (by decide) rfl (fun σ => Nat.le_of_ble_eq_true rfl) (fun G C => ?_)
  refine k_op_start l s w A B hO hA hB hm (by omega) hS C (fun b1 b2 f1 f2 h3 e1 e2 hf1 hf2 hs1 hs2 hx3 hS3 => ?_)
  refine hp_run_sound hp_co V_es_op C (fun _ _ _ _ _ _ _ hq => hq) [] 30 _ _ _ _ _ _ _ ?_
  refine And.intro (fun q => ?_) (fun q => absurd ((nI_eq (b := 4) (by omega) (by decide)).mp q) (by omega))
  refine And.intro (fun q => ?_) (fun q => absurd ((nI_eq (b := 5) (by omega) (by decide)).mp q) (by omega))
  refine ic_P (c_es_combine l h3 w b1 b2 (41 + s_m s) hw f1 f2 _ hf1 hf2 (hS3.2.2.2.1 _ hm)) (Nat.le_add_left _ _) (Nat.le_add_left _ _) ?_
  have q1 := esS_m hS3 hm (pt 64 (fun y => xcb w (f1 y) (f2 y)) (s_D s (s_m s)))
  refine And.intro ⟨0, _, q1.1, rfl⟩ ?_
  refine ic_P (c_es_addMade l _ _ _ _ q1.1) (Nat.le_add_left _ _) (Nat.le_add_left _ _) ?_
  refine And.intro rfl (And.intro rfl ⟨rfl, hxC_tr hx3 (hxC_of (ps := [1, 41 + s_m s]) (hx_set (hx_set (hx_rf _ _) _ (by simp)) _ (by simp)) (fun q hq => by simp at hq; omega)), _, fun y x hy hx2 => ?_, esS_1 q1 (s_m s + 1) (s_n s)⟩)
  rw [pt_lt _ _ hy, row_eq (rw_of hs1 hF) hy, row_eq (rw_of hs2 hE) hy]
