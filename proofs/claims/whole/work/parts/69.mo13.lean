/-! the reference: op 4 and 5 -/
theorem rlS_83 {s : St} {u : moT} {fi : Nat → Bool} {f e : Nat → Int64} {h' : hp_H} {g : Nat → Int32} {I M : Nat → Bool} (a : rlS s u fi f e h' g I M) (r : Nat → Int64) : rlS s u fi f e (h'.set 83 (LA 64 r)) g I M := by
  obtain ⟨a1, a2, a3, a4, a5, a6, a7⟩ := a
  exact ⟨moC_81 a1 r (Or.inr (Or.inr rfl)), by rw [hq_ne (by decide)]; exact a2, by rw [hq_ne (by decide)]; exact a3, by rw [hq_ne (by decide)]; exact a4, a5, by rw [hq_ne (by decide)]; exact a6, by rw [hq_ne (by decide)]; exact a7⟩
/-- square j is of a shape that V marks -/
def vq (f : Nat → Int64) (g : Nat → Int32) (V : Nat → Bool) (j : Nat) : Bool := qs f j && V (g j).toNatClampNeg
theorem vq_iff {f : Nat → Int64} {fi : Nat → Bool} {g : Nat → Int32} {V : Nat → Bool} (hF : isF f 0 fi) (hg : lbS f fi g) {j : Nat} (hj : j < 4096) : vq f g V j = true ↔ qs f j = true ∧ ∃ t, t < cn fi 4096 ∧ ofT f fi j t ∧ V t = true := by
  have hb := cn_4096 fi
  unfold vq
  rw [Bool.and_eq_true]
  refine and_congr_right (fun hq => ?_)
  rcases hg j hj with ⟨c1, _⟩ | ⟨_, t, t0, c2, c3⟩
  · rw [hq] at c1
    cases c1
  · rw [c3, nI_clamp (by omega)]
    constructor
    · intro h
      exact ⟨t, t0, c2, h⟩
    · rintro ⟨t', a1, a2, a3⟩
      rw [ofT_uq hF c2 a2]
      exact a3
theorem vq_at {f : Nat → Int64} {fi : Nat → Bool} {g : Nat → Int32} {V : Nat → Bool} (hg : lbS f fi g) {j : Nat} (hj : j < 4096) : (g j = -1 ∧ vq f g V j = false) ∨ ∃ t, t < cn fi 4096 ∧ g j = nI t ∧ vq f g V j = V t := by
  have hb := cn_4096 fi
  unfold vq
  rcases hg j hj with ⟨c1, c2⟩ | ⟨c1, t, t0, c2, c3⟩
  · rw [c1]
    exact Or.inl ⟨c2, rfl⟩
  · rw [c1, c3, nI_clamp (by omega)]
    exact Or.inr ⟨t, t0, rfl, rfl⟩
theorem m_op_45 (l : Launch) (s : St) (w A B : Nat) (hw : w = 4 ∨ w = 5) (hO : stOK s) (hA : A < s_B s + s_m s) (hB : B < s_B s + s_m s) (hm : s_m s < 24) (F E : Nat → Int64) (hF : shw s A F) (hE : shw s B E) (fi : Nat → Bool) (hfi : isF F 0 fi) (sp : Nat → Nat → Bool)
    (hsp : ∀ (f e : Nat → Int64) (g : Nat → Int32) (I M : Nat → Bool), rwN f = rwN F → rwN e = rwN E → lbS f fi g → inK f e fi 4096 I → toK f e fi 4096 M → ∀ y x, y < 64 → x < 64 → vq f g (if w = 4 then I else M) (64 * y + x) = sp x y) :
    moD l Y_mo_op [.int (nI w), .int (nI A), .int (nI B)] s sp := by
  rintro h cd ⟨u, rfl, hC⟩
  refine hp_start (T := T_mo_op) (by decide) rfl (fun σ => Nat.le_of_ble_eq_true rfl) (fun G C => ?_)
  refine m_op_60 l s u w A B hO hA hB hm (by omega) hC C (fun h3 f1 f2 hC3 k1 k2 s1 s2 hx3 => ?_)
  have hr1 := rw_of s1 hF
  have hr2 := rw_of s2 hE
  have hb := cn_4096 fi
  have hb2 := cn_le fi 4096
  have w3 : ¬ nI w ≤ nI 3 := nI_ge (by omega) (by omega)
  refine hp_run_sound hp_co V_mo_op C (fun _ _ _ _ _ _ _ hq => hq) [84] 12 _ _ _ _ _ _ _ ?_
  refine And.intro (fun q => absurd q w3) (fun _ => ?_)
  refine And.intro ⟨3, _, hC3.1, rfl⟩ ?_
  refine ic_Q (c_mo_relate l h3 s (0, u.2) f1 f2 fi (isF_eq hr1 hfi) hC3 k1 k2) (Nat.le_refl _) (Nat.le_refl _) (fun r h5 hq => ?_)
  obtain ⟨rfl, hx5, g, I, M, hR, hI, hM⟩ := hq
  have hsp2 := hsp f1 f2 g I M hr1 hr2 hR.2.2.2.2.1 hI hM
  have hx35 := hxM_tr hx3 hx5
  obtain ⟨e0, k83⟩ := mw_at hR.1.2.2 (Or.inr (Or.inr rfl))
  have key : ∀ (m y : Nat) (r : Nat → Int64), y + m = 64 → (∀ v i, v < y → i < 64 → bb (r v) i = sp i v) → hp_W G 84 [(0, .ref 75), (1, .int (nI w)), (2, .int (nI A)), (3, .int (nI B)), (4, .int (nI y))] [] (h5.set 83 (LA 64 r)) false 0 0 := by
    intro m
    induction m with
    | zero =>
      intro y r hy hg
      have e : y = 64 := by omega
      subst e
      refine hp_run_sound hp_co V_mo_op C (fun _ _ _ _ _ _ _ hq => hq) [287] 6 _ _ _ _ _ _ _ ?_
      refine And.intro (fun c => ?_) (fun c => absurd (nI_le (Nat.le_refl 64) (by decide)) c)
      exact m_op_287 l s _ hO hm sp r (rlS_83 hR r).1 (hq_get k83) hg (hxM_set hx35 _ (by omega)) _ _ _ _ C
    | succ m ih =>
      intro y r hy hg
      have hy64 : y < 64 := by omega
      have hR4 := rlS_83 hR r
      have j3 : (h5.set 83 (LA 64 r))[83]? = some (LA 64 r) := hq_get k83
      have inner : ∀ (m' x : Nat) (row : Int64), x + m' = 64 → (∀ i, i < 64 → bb row i = (decide (i < x) && sp i y)) → hp_W G 192 [(0, .ref 75), (1, .int (nI w)), (2, .int (nI A)), (3, .int (nI B)), (4, .int (nI y)), (5, .long row), (7, .int (nI x))] [] (h5.set 83 (LA 64 r)) false 0 0 := by
        intro m'
        induction m' with
        | zero =>
          intro x row hx2 hrow
          have e : x = 64 := by omega
          subst e
          have hW := ih (y + 1) (vp_updL r y row) (by omega) (fun v i hv hi => by
            by_cases e : v = y
            · rw [e, pk_uLs, hrow i hi, decide_eq_true hi]
              rfl
            · rw [pk_uLn e]
              exact hg v i (by omega) hi)
          rw [← nI_1 y] at hW
          refine hp_run_sound hp_co V_mo_op C (fun _ _ _ _ _ _ _ hq => hq) [84] 14 _ _ _ _ _ _ _ ?_
          refine And.intro (fun c => ?_) (fun c => absurd (nI_le (Nat.le_refl 64) (by decide)) c)
          refine Exists.intro _ (And.intro hR4.1.1 ?_)
          refine Exists.intro 64 (Exists.intro r (And.intro j3 (And.intro (in64 hy64) ?_)))
          rw [cl64 hy64, hq_set]
          exact hp_W_pick [0, 1, 2, 3, 4] hW
        | succ m' im =>
          intro x row hx2 hrow
          have hx64 : x < 64 := by omega
          have nxt : ∀ row', (∀ i, i < 64 → bb row' i = (bb row i || (decide (i = x) && sp x y))) → ∀ i, i < 64 → bb row' i = (decide (i < x + 1) && sp i y) := by
            intro row' hr i hi
            rw [hr i hi, hrow i hi]
            by_cases e : i = x
            · rw [e, decide_eq_true rfl, decide_eq_false (Nat.lt_irrefl x), decide_eq_true (Nat.lt_succ_self x), Bool.false_and, Bool.false_or]
            · rw [decide_eq_false e, Bool.false_and, Bool.or_false, show decide (i < x + 1) = decide (i < x) from decide_eq_decide.mpr (by omega)]
          have t262 : sp x y = false → ∀ z : Int32, hp_W G 262 [(0, .ref 75), (1, .int (nI w)), (2, .int (nI A)), (3, .int (nI B)), (4, .int (nI y)), (5, .long row), (7, .int (nI x)), (8, .int z)] [.long row] (h5.set 83 (LA 64 r)) false 0 0 := by
            intro hs z
            have hW := im (x + 1) (row ||| 0) (by omega) (nxt _ (fun i hi => by rw [bb_or, bb_0, hs, Bool.and_false]))
            rw [← nI_1 x] at hW
            refine hp_run_sound hp_co V_mo_op C (fun _ _ _ _ _ _ _ hq => hq) [192] 8 _ _ _ _ _ _ _ ?_
            exact hp_W_pick [0, 1, 2, 3, 4, 5, 7] hW
          have t255 : sp x y = true → ∀ z : Int32, hp_W G 255 [(0, .ref 75), (1, .int (nI w)), (2, .int (nI A)), (3, .int (nI B)), (4, .int (nI y)), (5, .long row), (7, .int (nI x)), (8, .int z)] [.long row] (h5.set 83 (LA 64 r)) false 0 0 := by
            intro hs z
            have hW := im (x + 1) (row ||| ((1 : Int64) <<< ((nI x).toInt64 &&& 63))) (by omega) (nxt _ (fun i hi => by rw [bb_or, bb_bit hx64 hi, hs, Bool.and_true]))
            rw [← nI_1 x] at hW
            refine hp_run_sound hp_co V_mo_op C (fun _ _ _ _ _ _ _ hq => hq) [192] 10 _ _ _ _ _ _ _ ?_
            exact hp_W_pick [0, 1, 2, 3, 4, 5, 7] hW
          have e1 : hp_c 64 * nI y + nI x = nI (64 * y + x) := by
            rw [← nI_add, ← pk_mul]
            rfl
          refine hp_run_sound hp_co V_mo_op C (fun _ _ _ _ _ _ _ hq => hq) [255, 262] 30 _ _ _ _ _ _ _ ?_
          refine And.intro (fun c => absurd c (nI_ge (b := 64) hx64 (by decide))) (fun _ => And.intro (fun q => absurd q w3) (fun _ => ?_))
          refine Exists.intro _ (And.intro hR4.1.1 ?_)
          refine Exists.intro .int (Exists.intro 4096 (Exists.intro _ (And.intro (Or.inl rfl) (And.intro hR4.2.2.2.1 (And.intro (show vp_in (hp_c 64 * nI y + nI x) 4096 from by rw [e1]; exact in_nI (by omega) (by decide)) ?_)))))
          rw [e1, nI_clamp (show 64 * y + x < 2 ^ 31 by omega)]
          have hv := hsp2 y x hy64 hx64
          rcases vq_at (V := if w = 4 then I else M) hR.2.2.2.2.1 (show 64 * y + x < 4096 by omega) with ⟨c1, c2⟩ | ⟨t, t0, c1, c2⟩
          · rw [c1]
            refine And.intro (fun _ => ?_) (fun q => absurd rfl q)
            exact t262 (hv.symm.trans c2) _
          · rw [c1]
            refine And.intro (fun q => absurd q (m1_ne (by omega))) (fun _ => ?_)
            rw [hv] at c2
            rcases hw with e | e
            · subst e
              rw [if_pos rfl] at c2
              refine And.intro (fun q => absurd rfl q) (fun _ => ?_)
              refine Exists.intro _ (And.intro hR4.1.1 ?_)
              refine Exists.intro 4096 (Exists.intro _ (And.intro hR4.2.2.2.2.2.1 (And.intro (in_nI (by omega) (by decide)) ?_)))
              rw [nI_clamp (show t < 2 ^ 31 by omega)]
              cases hIt : I t with
              | false => exact And.intro (fun _ => t262 (c2.trans hIt) _) (fun q => absurd rfl q)
              | true => exact And.intro (fun q => absurd q (by decide)) (fun _ => t255 (c2.trans hIt) _)
            · subst e
              rw [if_neg (by decide)] at c2
              refine And.intro (fun _ => ?_) (fun q => absurd q (by decide))
              refine Exists.intro _ (And.intro hR4.1.1 ?_)
              refine Exists.intro 4096 (Exists.intro _ (And.intro hR4.2.2.2.2.2.2 (And.intro (in_nI (by omega) (by decide)) ?_)))
              rw [nI_clamp (show t < 2 ^ 31 by omega)]
              cases hIt : M t with
              | false => exact And.intro (fun _ => t262 (c2.trans hIt) _) (fun q => absurd rfl q)
              | true => exact And.intro (fun q => absurd q (by decide)) (fun _ => t255 (c2.trans hIt) _)
      refine hp_run_sound hp_co V_mo_op C (fun _ _ _ _ _ _ _ hq => hq) [192] 30 _ _ _ _ _ _ _ ?_
      refine And.intro (fun c => absurd c (nI_ge (b := 64) hy64 (by decide))) (fun c => ?_)
      refine And.intro (fun _ => ?_) (fun q => absurd q (nI_ne0 (by omega) (by omega)))
      refine And.intro (fun _ => ?_) (fun q => absurd ((nI_eq (b := 1) (by omega) (by decide)).mp q) (by omega))
      refine And.intro (fun _ => ?_) (fun q => absurd ((nI_eq (b := 2) (by omega) (by decide)).mp q) (by omega))
      refine And.intro (fun _ => ?_) (fun q => absurd ((nI_eq (b := 3) (by omega) (by decide)).mp q) (by omega))
      exact inner 64 0 0 (by omega) (fun i hi => by rw [bb_0, decide_eq_false (Nat.not_lt_zero i)]; rfl)
  have h0 := key 64 0 e0 (by omega) (fun v i hv => absurd hv (Nat.not_lt_zero _))
  rw [hq_self k83] at h0
  exact h0
theorem m_op_4 (l : Launch) (s : St) (A B : Nat) (hO : stOK s) (hA : A < s_B s + s_m s) (hB : B < s_B s + s_m s) (hm : s_m s < 24) (F E : Nat → Int64) (hF : shw s A F) (hE : shw s B E) (sp : Nat → Nat → Bool)
    (hsp : ∀ y x, y < 64 → x < 64 → (sp x y = true ↔ qs F (64 * y + x) = true ∧ ∀ j, j < 4096 → qs F j = true → cnx (adj F 0) (64 * y + x) j → qs E j = true)) :
    moD l Y_mo_op [.int (nI 4), .int (nI A), .int (nI B)] s sp := by
  obtain ⟨fi, hfi⟩ := isF_ex F 0
  refine m_op_45 l s 4 A B (Or.inl rfl) hO hA hB hm F E hF hE fi hfi sp (fun f e g I M hr1 hr2 hg hI hM y x hy hx2 => bool_ext ?_)
  have hk : 64 * y + x < 4096 := by omega
  have hF2 := isF_eq hr1 hfi
  rw [if_pos rfl, vq_iff hF2 hg hk, hsp y x hy hx2, qs_eq hr1 hk]
  refine and_congr_right (fun hq => ?_)
  have hq2 : qs f (64 * y + x) = true := by rw [qs_eq hr1 hk]; exact hq
  constructor
  · rintro ⟨t, t0, ht, hIt⟩ j hj qj cj
    rw [← qs_eq hr2 hj]
    obtain ⟨a, a1, a2, a3, a4⟩ := ht
    exact (hI t t0).mp hIt j hj (by rw [qs_eq hr1 hj]; exact qj) ⟨a, a1, a2, cnx_tr a3 ((con_eq hr1).mpr cj), a4⟩
  · intro hall
    obtain ⟨t, t0, ht⟩ := ofT_ex hF2 hk hq2
    refine ⟨t, t0, ht, (hI t t0).mpr (fun j hj qj tj => ?_)⟩
    obtain ⟨a, a1, a2, a3, a4⟩ := ht
    rw [qs_eq hr2 hj]
    exact hall j hj (by rw [← qs_eq hr1 hj]; exact qj) ((con_eq hr1).mp (cnx_tr (cnx_sy a3) ((ofT_con a1 a2 a4).mp tj)))
theorem m_op_5 (l : Launch) (s : St) (A B : Nat) (hO : stOK s) (hA : A < s_B s + s_m s) (hB : B < s_B s + s_m s) (hm : s_m s < 24) (F E T : Nat → Int64) (hF : shw s A F) (hE : shw s B E) (hT : grT E T) (sp : Nat → Nat → Bool)
    (hsp : ∀ y x, y < 64 → x < 64 → (sp x y = true ↔ qs F (64 * y + x) = true ∧ ∃ j, j < 4096 ∧ qs F j = true ∧ cnx (adj F 0) (64 * y + x) j ∧ qs T j = true)) :
    moD l Y_mo_op [.int (nI 5), .int (nI A), .int (nI B)] s sp := by
  obtain ⟨fi, hfi⟩ := isF_ex F 0
  refine m_op_45 l s 5 A B (Or.inr rfl) hO hA hB hm F E hF hE fi hfi sp (fun f e g I M hr1 hr2 hg hI hM y x hy hx2 => bool_ext ?_)
  have hk : 64 * y + x < 4096 := by omega
  have hF2 := isF_eq hr1 hfi
  rw [if_neg (by decide), vq_iff hF2 hg hk, hsp y x hy hx2, qs_eq hr1 hk]
  refine and_congr_right (fun hq => ?_)
  have hq2 : qs f (64 * y + x) = true := by rw [qs_eq hr1 hk]; exact hq
  have ej : ∀ j, j < 4096 → rzb true e 1 1 (j % 64) (j / 64) = qs T j := fun j hj => by
    unfold qs
    rw [hT (j / 64) (j % 64) (by omega) (Nat.mod_lt _ (by decide))]
    unfold rzb
    rw [rzb_eq hr2 true 1 1 (show j / 64 < 64 by omega)]
  constructor
  · rintro ⟨t, t0, ht, hMt⟩
    obtain ⟨j, j1, j2, j3, j4⟩ := (hM t t0).mp hMt
    obtain ⟨a, a1, a2, a3, a4⟩ := ht
    exact ⟨j, j1, by rw [← qs_eq hr1 j1]; exact j2, (con_eq hr1).mp (cnx_tr (cnx_sy a3) ((ofT_con a1 a2 a4).mp j3)), by rw [← ej j j1]; exact j4⟩
  · rintro ⟨j, j1, j2, j3, j4⟩
    obtain ⟨t, t0, ht⟩ := ofT_ex hF2 hk hq2
    refine ⟨t, t0, ht, (hM t t0).mpr ⟨j, j1, by rw [qs_eq hr1 j1]; exact j2, ?_, by rw [ej j j1]; exact j4⟩⟩
    obtain ⟨a, a1, a2, a3, a4⟩ := ht
    exact ⟨a, a1, a2, cnx_tr a3 ((con_eq hr1).mpr j3), a4⟩
