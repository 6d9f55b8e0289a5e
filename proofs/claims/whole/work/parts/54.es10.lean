/-! op 4 and 5 -/
theorem esS_find {h h' : hp_H} {s : St} (hS : esS h s) (x3 : hx [65, 66, 67, 69, 70, 71, 74] h h') {f : Nat → Int64} {g o : Nat → Nat} (hf : fS f h' g o) (h70 : ∃ M, h'[70]? = some (BA 2048 M)) (h74 : ∃ e, h'[74]? = some (LA 64 e)) : esS h' s := by
  refine esS_hx hS (hx_tr x3 (hx_rf [] _) _ (by decide) (by decide)) ?_
  obtain ⟨q1, q2, z65, z66, z67, z69, z71, -⟩ := id hf
  exact wkS_hx x3 hS.2.2.2.2 (Or.inl (by decide)) (Or.inr ⟨_, _, z65⟩) (Or.inr ⟨_, z66⟩) (Or.inr ⟨_, z67⟩) (Or.inl (by decide)) (Or.inr ⟨_, z69⟩) (Or.inr h70) (Or.inr ⟨_, z71⟩) (Or.inl (by decide)) (Or.inl (by decide)) (Or.inr h74)
/-- what shapes are gathered, told by squares alone -/
theorem gat_sq {f e : Nat → Int64} {h : hp_H} {g o : Nat → Nat} {M : Nat → Bool} (hf : fS f h g o) (hM : ∀ t, t < cn (hdb g) (rs f 64) → (M t = true ↔ mtQ f e o 64 0 t)) {k : Nat} (hk : k < 4096) (hq : qs f k = true) : M (o (rno f k)) = true ↔ ∃ j, j < 4096 ∧ qs f j = true ∧ cnx (adj f 0) k j ∧ qs e j = true := by
  obtain ⟨s, r, a1, a2, a3, a4, a5, a6, a7, a8, a9, a10⟩ := hf
  obtain ⟨fi, hF⟩ := isF_ex f 0
  have hl := rno_lt f hk hq
  have ho : o (rno f k) < cn (hdb g) (rs f 64) := by
    rw [a10 _ hl]
    refine cn_in (Nat.lt_of_le_of_lt (a8 _ hl).1 hl) ?_
    exact decide_eq_true (a8 _ hl).2
  rw [hM _ ho, mtQ_sq a8 a9 a10 hF]
  obtain ⟨a, b1, b2, b3, b4⟩ := (head_no a8 a9 a10 hF hk hq).mp rfl
  constructor
  · rintro ⟨j, j1, j2, j3, j4⟩
    exact ⟨j, j1, j2, cnx_tr (cnx_sy b3) ((ofT_con b1 b2 b4).mp j4), j3⟩
  · rintro ⟨j, j1, j2, j3, j4⟩
    exact ⟨j, j1, j2, j4, (ofT_con b1 b2 b4).mpr (cnx_tr b3 j3)⟩
theorem isR_c {b m : Nat} (hm : m < 24) (e : b = 72 ∨ b = 73 ∨ (41 ≤ b ∧ b < 41 + m)) : isR b := by
  unfold isR
  omega
theorem qs_not {f : Nat → Int64} {e : Nat → Int64} {k : Nat} (hk : k < 4096) : qs (pt 64 (fun y => f y ^^^ (-1)) e) k = !qs f k := by
  unfold qs
  rw [pt_lt _ _ (show k / 64 < 64 by omega), bb_not _ (Nat.mod_lt _ (by decide))]
set_option maxRecDepth 20000 in
theorem k_op_4 (l : Launch) (s : St) (A B : Nat) (hO : stOK s) (hA : A < s_B s + s_m s) (hB : B < s_B s + s_m s) (hm : s_m s < 24) (F E : Nat → Int64) (hF : shw s A F) (hE : shw s B E) (sp : Nat → Nat → Bool)
    (hsp : ∀ y x, y < 64 → x < 64 → (sp x y = true ↔ qs F (64 * y + x) = true ∧ ∀ j, j < 4096 → qs F j = true → cnx (adj F 0) (64 * y + x) j → qs E j = true)) :
    clsD l Y_es_op [.int (nI 4), .int (nI A), .int (nI B)] s sp := by
  intro h hS
  refine hp_start (T := T_es_op) (by decide) rfl (fun σ => Nat.le_of_ble_eq_true rfl) (fun G C => ?_)
  refine k_op_start l s 4 A B hO hA hB hm (by omega) hS C (fun b1 b2 f1 f2 h3 e1 e2 hf1 hf2 hs1 hs2 hx3 hS3 => ?_)
  have r1 : isR b1 := isR_c hm (by omega)
  have n1 : b1 ≠ 74 := by omega
  obtain ⟨⟨w1, v1⟩, ⟨w2, u2, v2⟩, ⟨w3, v3⟩, ⟨w4, v4⟩, ⟨w5, v5⟩, ⟨w6, v6⟩, ⟨w7, v7⟩, ⟨w8, v8⟩, ⟨w9, v9⟩, ⟨w10, v10⟩, ⟨w11, v11⟩⟩ := id hS3.2.2.2.2
  refine hp_run_sound hp_co V_es_op C (fun _ _ _ _ _ _ _ hq => hq) [] 40 _ _ _ _ _ _ _ ?_
  refine And.intro (fun q => absurd rfl q) (fun q => ?_)
  refine Exists.intro _ (And.intro hS3.1 ?_)
  refine ic_P (c_ro_complement l h3 b2 74 f2 w11 hf2 v11) (Nat.le_add_left _ _) (Nat.le_add_left _ _) ?_
  have x1 : hx [65, 66, 67, 69, 70, 71, 74] h3 (h3.set 74 (LA 64 (pt 64 (fun y => f2 y ^^^ (-1)) w11))) := hx_set (hx_rf _ _) _ (by decide)
  refine Exists.intro _ (And.intro (by rw [hq_ne (by decide)]; exact hS3.1) ?_)
  refine And.intro ⟨2, _, (by rw [hq_ne (by decide)]; exact v2), rfl⟩ ?_
  refine ic_Q (c_pa_findShapes l _ b1 w2 u2 f1 w3 w4 w6 w8 r1 (by rw [hq_ne (fun q => n1 q.symm)]; exact hf1) (by rw [hq_ne (by decide)]; exact v2) (by rw [hq_ne (by decide)]; exact v3) (by rw [hq_ne (by decide)]; exact v4) (by rw [hq_ne (by decide)]; exact v6) (by rw [hq_ne (by decide)]; exact v8)) (Nat.le_add_left _ _) (Nat.le_add_left _ _) (fun r h5 hq => ?_)
  obtain ⟨rfl, x2, g, o, hfs⟩ := hq
  have x12 : hx [65, 66, 67, 69, 70, 71, 74] h3 h5 := hx_tr x1 x2 _ (fun q hq => hq) (by decide)
  have k74 : h5[74]? = some (LA 64 (pt 64 (fun y => f2 y ^^^ (-1)) w11)) := hx_at x2 (by decide) (hq_get v11)
  have k70 : h5[70]? = some (BA 2048 w7) := hx_at x2 (by decide) (by rw [hq_ne (by decide)]; exact v7)
  have hS5 := esS_find hS3 x12 hfs ⟨_, k70⟩ ⟨_, k74⟩
  obtain ⟨p65, r65, hp65⟩ : ∃ rc sc, h5[65]? = some (PA rc sc) := by
    obtain ⟨q1, q2, q3, -⟩ := hfs
    exact ⟨_, _, q3⟩
  refine Exists.intro _ (And.intro hS5.1 ?_)
  refine Exists.intro _ (And.intro hS5.1 ?_)
  refine And.intro ⟨2, _, hp65, rfl⟩ ?_
  refine ic_Q (c_pa_markMeeting l h5 74 f1 _ g o w7 (Or.inr ⟨by omega, by omega⟩) k74 hfs k70) (Nat.le_add_left _ _) (Nat.le_add_left _ _) (fun r h6 hq => ?_)
  obtain ⟨rfl, M, rfl, hM⟩ := hq
  have x3 : hx [65, 66, 67, 69, 70, 71, 74] h3 (h5.set 70 (BA 2048 M)) := hx_set x12 _ (by decide)
  have x23 : hx [70] h5 (h5.set 70 (BA 2048 M)) := hx_set (hx_rf _ _) _ (by decide)
  have hfs3 : fS f1 (h5.set 70 (BA 2048 M)) g o := fS_hx hfs x23 (by decide) (by decide) (by decide) (by decide) (by decide)
  have k70' : (h5.set 70 (BA 2048 M))[70]? = some (BA 2048 M) := hq_get k70
  have hS6 : esS (h5.set 70 (BA 2048 M)) s := esS_find hS3 x3 hfs3 ⟨_, k70'⟩ ⟨_, hx_at x23 (by decide) k74⟩
  refine Exists.intro _ (And.intro hS6.1 ?_)
  refine And.intro ⟨2, _, (by rw [hq_ne (by decide)]; exact hp65), rfl⟩ ?_
  refine ic_Q (c_pa_gather l _ (41 + s_m s) false f1 _ g o M (Or.inl ⟨by omega, by omega⟩) (hS6.2.2.2.1 _ hm) hfs3 k70') (Nat.le_add_left _ _) (Nat.le_add_left _ _) (fun r h7 hq => ?_)
  obtain ⟨rfl, R, rfl, hR⟩ := hq
  have q1 := esS_m hS6 hm R
  refine And.intro ⟨0, _, q1.1, rfl⟩ ?_
  refine ic_P (c_es_addMade l _ _ _ _ q1.1) (Nat.le_add_left _ _) (Nat.le_add_left _ _) ?_
  refine And.intro rfl (And.intro rfl ⟨rfl, hxC_tr hx3 (hxC_tr (hxC_of x3 (by decide)) (hxC_of (ps := [1, 41 + s_m s]) (hx_set (hx_set (hx_rf _ _) _ (by simp)) _ (by simp)) (fun q hq => by simp at hq; omega))), R, fun y x hy hx2 => ?_, esS_1 q1 (s_m s + 1) (s_n s)⟩)
  have hr1 := rw_of hs1 hF
  have hr2 := rw_of hs2 hE
  have hk : 64 * y + x < 4096 := by omega
  rw [hR y hy, bb_gat f1 (fun r => M (o r) == false) hx2]
  refine bool_ext ?_
  rw [hsp y x hy hx2, Bool.and_eq_true, ← qs_at f1 hx2, ← qs_eq hr1 hk]
  refine and_congr_right (fun hqk => ?_)
  have key := gat_sq hfs hM hk hqk
  constructor
  · intro hb j hj qj cj
    have hb2 : M (o (rno f1 (64 * y + x))) = false := by simpa using hb
    refine Classical.byContradiction (fun hn => ?_)
    rw [← qs_eq hr2 hj] at hn
    have : M (o (rno f1 (64 * y + x))) = true := key.mpr ⟨j, hj, by rw [qs_eq hr1 hj]; exact qj, (con_eq hr1).mpr cj, by rw [qs_not hj]; simpa using hn⟩
    rw [hb2] at this
    cases this
  · intro hall
    have : M (o (rno f1 (64 * y + x))) = false := by
      cases hc : M (o (rno f1 (64 * y + x))) with
      | false => rfl
      | true =>
        exfalso
        obtain ⟨j, j1, j2, j3, j4⟩ := key.mp hc
        rw [qs_not j1, qs_eq hr2 j1, hall j j1 (by rw [← qs_eq hr1 j1]; exact j2) ((con_eq hr1).mp j3)] at j4
        cases j4
    show (M (o (rno f1 (64 * y + x))) == false) = true
    rw [this]
    rfl
/-- rows e grown by one, told by T -/
def grT (E T : Nat → Int64) : Prop := ∀ y x, y < 64 → x < 64 → bb (T y) x = rzb true E 1 1 x y
theorem grT_eq {e t E T : Nat → Int64} (h : rwN e = rwN E) (hT : grT E T) (ht : ∀ y, y < 64 → t y = xtu (fun x => xrs true (xtu (fun v => xrs true (e v) 1) x) 1) y) : rwN t = rwN T := funext fun y => by
  unfold rwN
  by_cases hy : y < 64
  · rw [if_pos hy, if_pos hy]
    refine bb_ext (fun x hx2 => ?_)
    rw [hT y x hy hx2, ht y hy, rzb_eq h true 1 1 hy]
    rfl
  · rw [if_neg hy, if_neg hy]
set_option maxRecDepth 20000 in
theorem k_op_5 (l : Launch) (s : St) (A B : Nat) (hO : stOK s) (hA : A < s_B s + s_m s) (hB : B < s_B s + s_m s) (hm : s_m s < 24) (F E T : Nat → Int64) (hF : shw s A F) (hE : shw s B E) (hT : grT E T) (sp : Nat → Nat → Bool)
    (hsp : ∀ y x, y < 64 → x < 64 → (sp x y = true ↔ qs F (64 * y + x) = true ∧ ∃ j, j < 4096 ∧ qs F j = true ∧ cnx (adj F 0) (64 * y + x) j ∧ qs T j = true)) :
    clsD l Y_es_op [.int (nI 5), .int (nI A), .int (nI B)] s sp := by
  intro h hS
  refine hp_start (T := T_es_op) (by decide) rfl (fun σ => Nat.le_of_ble_eq_true rfl) (fun G C => ?_)
  refine k_op_start l s 5 A B hO hA hB hm (by omega) hS C (fun b1 b2 f1 f2 h3 e1 e2 hf1 hf2 hs1 hs2 hx3 hS3 => ?_)
  have r1 : isR b1 := isR_c hm (by omega)
  have r2 : isR b2 := isR_c hm (by omega)
  have n1 : b1 ≠ 74 := by omega
  refine hp_run_sound hp_co V_es_op C (fun _ _ _ _ _ _ _ hq => hq) [] 40 _ _ _ _ _ _ _ ?_
  refine And.intro (fun q => ?_) (fun q => absurd q (by decide))
  refine And.intro (fun q => absurd rfl q) (fun q => ?_)
  refine And.intro ⟨0, _, hS3.1, rfl⟩ ?_
  refine ic_Q (c_es_markTouching l h3 s b1 b2 f1 f2 r1 n1 r2 hf1 hf2 hS3) (Nat.le_add_left _ _) (Nat.le_add_left _ _) (fun r h6 hq => ?_)
  obtain ⟨rfl, x3, hS6, g, o, M, t, hfs3, k70', ht, hM⟩ := hq
  refine Exists.intro _ (And.intro hS6.1 ?_)
  obtain ⟨p65, r65, hp65⟩ : ∃ rc sc, h6[65]? = some (PA rc sc) := by
    obtain ⟨q1, q2, q3, -⟩ := hfs3
    exact ⟨_, _, q3⟩
  refine And.intro ⟨2, _, hp65, rfl⟩ ?_
  refine ic_Q (c_pa_gather l _ (41 + s_m s) true f1 _ g o M (Or.inl ⟨by omega, by omega⟩) (hS6.2.2.2.1 _ hm) hfs3 k70') (Nat.le_add_left _ _) (Nat.le_add_left _ _) (fun r h7 hq => ?_)
  obtain ⟨rfl, R, rfl, hR⟩ := hq
  have q1 := esS_m hS6 hm R
  refine And.intro ⟨0, _, q1.1, rfl⟩ ?_
  refine ic_P (c_es_addMade l _ _ _ _ q1.1) (Nat.le_add_left _ _) (Nat.le_add_left _ _) ?_
  refine And.intro rfl (And.intro rfl ⟨rfl, hxC_tr hx3 (hxC_tr (hxC_of x3 (by decide)) (hxC_of (ps := [1, 41 + s_m s]) (hx_set (hx_set (hx_rf _ _) _ (by simp)) _ (by simp)) (fun q hq => by simp at hq; omega))), R, fun y x hy hx2 => ?_, esS_1 q1 (s_m s + 1) (s_n s)⟩)
  have hr1 := rw_of hs1 hF
  have hr2 := grT_eq (rw_of hs2 hE) hT ht
  have hk : 64 * y + x < 4096 := by omega
  rw [hR y hy, bb_gat f1 (fun r => M (o r) == true) hx2]
  refine bool_ext ?_
  rw [hsp y x hy hx2, Bool.and_eq_true, ← qs_at f1 hx2, ← qs_eq hr1 hk]
  refine and_congr_right (fun hqk => ?_)
  have key := gat_sq hfs3 hM hk hqk
  rw [beq_true, key]
  exact exists_congr (fun j => and_congr_right (fun j1 => by rw [qs_eq hr1 j1, con_eq hr1, qs_eq hr2 j1]))
