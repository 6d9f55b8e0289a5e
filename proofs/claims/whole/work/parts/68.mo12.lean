/-! the reference: relate, touching, op 4 and 5 -/
/-- shapes' marks after the first k squares -/
def inK (f e : Nat → Int64) (fi : Nat → Bool) (k : Nat) (I : Nat → Bool) : Prop := ∀ t, t < cn fi 4096 → (I t = true ↔ ∀ j, j < k → qs f j = true → ofT f fi j t → qs e j = true)
def toK (f e : Nat → Int64) (fi : Nat → Bool) (k : Nat) (M : Nat → Bool) : Prop := ∀ t, t < cn fi 4096 → (M t = true ↔ ∃ j, j < k ∧ qs f j = true ∧ ofT f fi j t ∧ rzb true e 1 1 (j % 64) (j / 64) = true)
/-- what relate leaves -/
def rlS (s : St) (u : moT) (fi : Nat → Bool) (f e : Nat → Int64) (h' : hp_H) (g : Nat → Int32) (I M : Nat → Bool) : Prop := moC h' s (u.1, cn fi 4096, u.2.2) ∧ h'[81]? = some (LA 64 f) ∧ h'[82]? = some (LA 64 e) ∧ h'[84]? = some (IA 4096 g) ∧ lbS f fi g ∧ h'[87]? = some (BA 4096 I) ∧ h'[88]? = some (BA 4096 M)
theorem rlS_87 {s : St} {u : moT} {fi : Nat → Bool} {f e : Nat → Int64} {h' : hp_H} {g : Nat → Int32} {I M : Nat → Bool} (a : rlS s u fi f e h' g I M) (I' : Nat → Bool) : rlS s u fi f e (h'.set 87 (BA 4096 I')) g I' M := by
  obtain ⟨a1, a2, a3, a4, a5, a6, a7⟩ := a
  obtain ⟨⟨f1, c1⟩, ⟨f2, c2⟩, ⟨f3, c3⟩, ⟨f4, c4⟩, ⟨f5, c5⟩, ⟨f6, c6⟩, ⟨f7, c7⟩, ⟨f8, c8⟩⟩ := a1.2.2
  refine ⟨⟨by rw [hq_ne (by decide)]; exact a1.1, moA_big a1.2.1 _ (by decide), ⟨_, by rw [hq_ne (by decide)]; exact c1⟩, ⟨_, by rw [hq_ne (by decide)]; exact c2⟩, ⟨_, by rw [hq_ne (by decide)]; exact c3⟩, ⟨_, by rw [hq_ne (by decide)]; exact c4⟩, ⟨_, by rw [hq_ne (by decide)]; exact c5⟩, ⟨_, by rw [hq_ne (by decide)]; exact c6⟩, ⟨_, hq_get c7⟩, ⟨_, by rw [hq_ne (by decide)]; exact c8⟩⟩, by rw [hq_ne (by decide)]; exact a2, by rw [hq_ne (by decide)]; exact a3, by rw [hq_ne (by decide)]; exact a4, a5, hq_get a6, by rw [hq_ne (by decide)]; exact a7⟩
theorem rlS_88 {s : St} {u : moT} {fi : Nat → Bool} {f e : Nat → Int64} {h' : hp_H} {g : Nat → Int32} {I M : Nat → Bool} (a : rlS s u fi f e h' g I M) (M' : Nat → Bool) : rlS s u fi f e (h'.set 88 (BA 4096 M')) g I M' := by
  obtain ⟨a1, a2, a3, a4, a5, a6, a7⟩ := a
  obtain ⟨⟨f1, c1⟩, ⟨f2, c2⟩, ⟨f3, c3⟩, ⟨f4, c4⟩, ⟨f5, c5⟩, ⟨f6, c6⟩, ⟨f7, c7⟩, ⟨f8, c8⟩⟩ := a1.2.2
  refine ⟨⟨by rw [hq_ne (by decide)]; exact a1.1, moA_big a1.2.1 _ (by decide), ⟨_, by rw [hq_ne (by decide)]; exact c1⟩, ⟨_, by rw [hq_ne (by decide)]; exact c2⟩, ⟨_, by rw [hq_ne (by decide)]; exact c3⟩, ⟨_, by rw [hq_ne (by decide)]; exact c4⟩, ⟨_, by rw [hq_ne (by decide)]; exact c5⟩, ⟨_, by rw [hq_ne (by decide)]; exact c6⟩, ⟨_, by rw [hq_ne (by decide)]; exact c7⟩, ⟨_, hq_get c8⟩⟩, by rw [hq_ne (by decide)]; exact a2, by rw [hq_ne (by decide)]; exact a3, by rw [hq_ne (by decide)]; exact a4, a5, by rw [hq_ne (by decide)]; exact a6, hq_get a7⟩
theorem inK_no {f e : Nat → Int64} {fi : Nat → Bool} {k : Nat} {I : Nat → Bool} (h : inK f e fi k I) (hq : qs f k = false) : inK f e fi (k + 1) I := fun t ht => by
  rw [h t ht]
  refine ⟨fun a j hj qj => ?_, fun a j hj => a j (by omega)⟩
  rcases Nat.lt_or_ge j k with c | c
  · exact a j c qj
  · rw [show j = k by omega, hq] at qj
    cases qj
theorem toK_no {f e : Nat → Int64} {fi : Nat → Bool} {k : Nat} {M : Nat → Bool} (h : toK f e fi k M) (hq : qs f k = false) : toK f e fi (k + 1) M := fun t ht => by
  rw [h t ht]
  refine ⟨fun ⟨j, a, b⟩ => ⟨j, by omega, b⟩, fun ⟨j, a, b, c⟩ => ?_⟩
  rcases Nat.lt_or_ge j k with d | d
  · exact ⟨j, d, b, c⟩
  · rw [show j = k by omega, hq] at b
    cases b
theorem inK_s {f e : Nat → Int64} {fi : Nat → Bool} {k t0 : Nat} {I : Nat → Bool} (hF : isF f 0 fi) (h : inK f e fi k I) (hq : qs f k = true) (ht0 : ofT f fi k t0) : inK f e fi (k + 1) (updB I t0 (I t0 && qs e k)) := fun t ht => by
  by_cases c : t = t0
  · subst c
    rw [updB_s, Bool.and_eq_true, h t ht]
    constructor
    · rintro ⟨a, b⟩ j hj qj tj
      rcases Nat.lt_or_ge j k with d | d
      · exact a j d qj tj
      · rw [show j = k by omega]
        exact b
    · intro a
      exact ⟨fun j hj => a j (by omega), a k (by omega) hq ht0⟩
  · rw [updB_n _ _ c, h t ht]
    refine ⟨fun a j hj qj tj => ?_, fun a j hj => a j (by omega)⟩
    rcases Nat.lt_or_ge j k with d | d
    · exact a j d qj tj
    · rw [show j = k by omega] at tj
      exact absurd (ofT_uq hF tj ht0) c
theorem toK_s {f e : Nat → Int64} {fi : Nat → Bool} {k t0 : Nat} {M : Nat → Bool} (hF : isF f 0 fi) (h : toK f e fi k M) (hq : qs f k = true) (ht0 : ofT f fi k t0) : toK f e fi (k + 1) (updB M t0 (M t0 || rzb true e 1 1 (k % 64) (k / 64))) := fun t ht => by
  by_cases c : t = t0
  · subst c
    rw [updB_s, Bool.or_eq_true, h t ht]
    constructor
    · rintro (⟨j, a, b⟩ | b)
      · exact ⟨j, by omega, b⟩
      · exact ⟨k, by omega, hq, ht0, b⟩
    · rintro ⟨j, a, b, c, d⟩
      rcases Nat.lt_or_ge j k with r | r
      · exact Or.inl ⟨j, r, b, c, d⟩
      · rw [show j = k by omega] at d
        exact Or.inr d
  · rw [updB_n _ _ c, h t ht]
    refine ⟨fun ⟨j, a, b⟩ => ⟨j, by omega, b⟩, fun ⟨j, a, b, d, r⟩ => ?_⟩
    rcases Nat.lt_or_ge j k with q | q
    · exact ⟨j, q, b, d, r⟩
    · rw [show j = k by omega] at d
      exact absurd (ofT_uq hF d ht0) c
theorem upd_zI (M : Nat → Bool) (k : Nat) (v : Bool) : upd (fun j => zI (M j)) k (zI v) = fun j => zI (updB M k v j) := by
  funext j
  unfold upd updB
  by_cases e : j = k
  · rw [if_pos e, if_pos e]
  · rw [if_neg e, if_neg e]
set_option maxRecDepth 20000 in
theorem c_mo_relate (l : Launch) (h : hp_H) (s : St) (u : moT) (f e : Nat → Int64) (fi : Nat → Bool) (hF : isF f 0 fi) (hC : moC h s u) (hf : h[81]? = some (LA 64 f)) (he : h[82]? = some (LA 64 e)) :
    hp_M l Y_mo_relate [.ref 75] h false 0 0 (fun r h' => r = .inl none ∧ hxM h h' ∧ ∃ g I M, rlS s u fi f e h' g I M ∧ inK f e fi 4096 I ∧ toK f e fi 4096 M) := by
  have hb := cn_4096 fi
  have hb2 := cn_le fi 4096
  refine hp_start (T := T_mo_relate) (by decide) rfl (fun σ => Nat.le_of_ble_eq_true rfl) (fun G C => ?_)
  have L2 : ∀ (m k : Nat) (H : hp_H) (g : Nat → Int32) (I M : Nat → Bool), k + m = 4096 → hxM h H → rlS s u fi f e H g I M → inK f e fi k I → toK f e fi k M → hp_W G 36 [(0, .ref 75), (1, .int (nI k))] [] H false 0 0 := by
    intro m
    induction m with
    | zero =>
      intro k H g I M hk hxh hR hI hM
      have e1 : k = 4096 := by omega
      subst e1
      refine hp_run_sound hp_co V_mo_relate C (fun _ _ _ _ _ _ _ hq => hq) [36] 8 _ _ _ _ _ _ _ ?_
      refine And.intro (fun c => ?_) (fun c => absurd (nI_le (Nat.le_refl 4096) (by decide)) c)
      exact And.intro rfl (And.intro rfl (And.intro rfl ⟨hxh, g, I, M, hR, hI, hM⟩))
    | succ m ih =>
      intro k H g I M hk hxh hR hI hM
      have hk4 : k < 4096 := by omega
      have hx64 : k % 64 < 64 := Nat.mod_lt _ (by decide)
      have hy64 : k / 64 < 64 := by omega
      have e1 : nI k - nI k / hp_c 64 * hp_c 64 = nI (k % 64) := pk_rem (d := 64) (by omega) (by decide) (by decide)
      have e2 : nI k / hp_c 64 = nI (k / 64) := pk_div (d := 64) (by omega) (by decide) (by decide)
      refine hp_run_sound hp_co V_mo_relate C (fun _ _ _ _ _ _ _ hq => hq) [36, 55] 20 _ _ _ _ _ _ _ ?_
      refine And.intro (fun c => absurd c (nI_ge (b := 4096) hk4 (by decide))) (fun c => ?_)
      refine Exists.intro _ (And.intro hR.1.1 ?_)
      refine Exists.intro .int (Exists.intro 4096 (Exists.intro _ (And.intro (Or.inl rfl) (And.intro hR.2.2.2.1 (And.intro (in_nI hk4 (by decide)) ?_)))))
      rw [nI_clamp (show k < 2 ^ 31 by omega)]
      rcases hR.2.2.2.2.1 k hk4 with ⟨c1, c2⟩ | ⟨c1, t, t0, c2, c3⟩
      · rw [c2]
        refine And.intro (fun _ => ?_) (fun q => absurd rfl q)
        have hW := ih (k + 1) H g I M (by omega) hxh hR (inK_no hI c1) (toK_no hM c1)
        rw [← nI_1 k] at hW
        exact hp_W_pick [0, 1] hW
      · rw [c3]
        refine And.intro (fun q => absurd q (m1_ne (by omega))) (fun _ => ?_)
        have ht4 : t < 4096 := by omega
        -- the second mark
        have t90 : ∀ H, rlS s u fi f e H g (updB I t (I t && qs e k)) M → hxM h H → hp_W G 90 [(0, .ref 75), (1, .int (nI k)), (2, .int (nI t))] [] H false 0 0 := by
          intro H hR hxh
          have t124 : ∀ b, b = (M t || rzb true e 1 1 (k % 64) (k / 64)) → hp_W G 124 [(0, .ref 75), (1, .int (nI k)), (2, .int (nI t))] [.int (zI b), .int (nI t), .ref 88] H false 0 0 := by
            intro b hbb
            have hW := ih (k + 1) _ g _ (updB M t b) (by omega) (hxM_set hxh _ (by omega)) (rlS_88 hR (updB M t b)) (inK_s hF hI c1 c2) (by rw [hbb]; exact toK_s hF hM c1 c2)
            rw [← nI_1 k, BA_upd] at hW
            refine hp_run_sound hp_co V_mo_relate C (fun _ _ _ _ _ _ _ hq => hq) [36] 6 _ _ _ _ _ _ _ ?_
            refine Exists.intro 4096 (Exists.intro _ (And.intro hR.2.2.2.2.2.2 (And.intro (in_nI ht4 (by decide)) (And.intro (by cases b <;> rfl) ?_))))
            rw [nI_clamp (show t < 2 ^ 31 by omega)]
            exact hp_W_pick [0, 1] hW
          refine hp_run_sound hp_co V_mo_relate C (fun _ _ _ _ _ _ _ hq => hq) [124] 24 _ _ _ _ _ _ _ ?_
          refine Exists.intro _ (And.intro hR.1.1 ?_)
          refine Exists.intro _ (And.intro hR.1.1 ?_)
          refine Exists.intro 4096 (Exists.intro _ (And.intro hR.2.2.2.2.2.2 (And.intro (in_nI ht4 (by decide)) ?_)))
          rw [nI_clamp (show t < 2 ^ 31 by omega)]
          cases hMt : M t with
          | true =>
            rw [hMt, Bool.true_or] at t124
            exact And.intro (fun _ => t124 true rfl) (fun q => absurd q (by decide))
          | false =>
            rw [hMt, Bool.false_or] at t124
            refine And.intro (fun q => absurd rfl q) (fun _ => ?_)
            refine And.intro (by decide) ?_
            refine And.intro (by decide) ?_
            refine And.intro ⟨3, _, hR.1.1, rfl⟩ ?_
            rw [e1, e2]
            refine ic_P (c_mo_isTouched l H s _ (k % 64) (k / 64) hx64 hy64 e hR.1.1 hR.2.2.1) (Nat.le_refl _) (Nat.le_refl _) ?_
            cases hz : rzb true e 1 1 (k % 64) (k / 64) with
            | false => exact And.intro (fun _ => t124 false hz.symm) (fun q => absurd rfl q)
            | true => exact And.intro (fun q => absurd q (by decide)) (fun _ => t124 true hz.symm)
        have t89 : ∀ b, b = (I t && qs e k) → hp_W G 89 [(0, .ref 75), (1, .int (nI k)), (2, .int (nI t))] [.int (zI b), .int (nI t), .ref 87] H false 0 0 := by
          intro b hbb
          have hW := t90 _ (by rw [← hbb]; exact rlS_87 hR (updB I t b)) (hxM_set hxh _ (by omega))
          rw [BA_upd] at hW
          refine hp_run_sound hp_co V_mo_relate C (fun _ _ _ _ _ _ _ hq => hq) [90] 6 _ _ _ _ _ _ _ ?_
          refine Exists.intro 4096 (Exists.intro _ (And.intro hR.2.2.2.2.2.1 (And.intro (in_nI ht4 (by decide)) (And.intro (by cases b <;> rfl) ?_))))
          rw [nI_clamp (show t < 2 ^ 31 by omega)]
          exact hW
        refine hp_run_sound hp_co V_mo_relate C (fun _ _ _ _ _ _ _ hq => hq) [89] 24 _ _ _ _ _ _ _ ?_
        refine Exists.intro _ (And.intro hR.1.1 ?_)
        refine Exists.intro _ (And.intro hR.1.1 ?_)
        refine Exists.intro 4096 (Exists.intro _ (And.intro hR.2.2.2.2.2.1 (And.intro (in_nI ht4 (by decide)) ?_)))
        rw [nI_clamp (show t < 2 ^ 31 by omega)]
        cases hIt : I t with
        | false =>
          rw [hIt, Bool.false_and] at t89
          exact And.intro (fun _ => t89 false rfl) (fun q => absurd rfl q)
        | true =>
          rw [hIt, Bool.true_and] at t89
          refine And.intro (fun q => absurd q (by decide)) (fun _ => ?_)
          refine And.intro (by decide) ?_
          refine And.intro (by decide) ?_
          refine And.intro ⟨3, _, hR.1.1, rfl⟩ ?_
          rw [e1, e2]
          refine ic_P (c_mo_isTwo l H s _ (nI (k % 64)) (nI (k / 64)) e hR.1.1 hR.2.2.1) (Nat.le_refl _) (Nat.le_refl _) ?_
          rw [on1_in e hx64 hy64, show bb (e (k / 64)) (k % 64) = qs e k from rfl]
          cases hz : qs e k with
          | false => exact And.intro (fun _ => t89 false hz.symm) (fun q => absurd rfl q)
          | true => exact And.intro (fun q => absurd q (by decide)) (fun _ => t89 true hz.symm)
  have L1 : ∀ (m i : Nat) (H : hp_H) (g : Nat → Int32) (I M : Nat → Bool), i + m = cn fi 4096 → hxM h H → rlS s u fi f e H g I M → (∀ t, t < i → I t = true ∧ M t = false) → hp_W G 6 [(0, .ref 75), (1, .int (nI i))] [] H false 0 0 := by
    intro m
    induction m with
    | zero =>
      intro i H g I M hi hxh hR hn
      refine hp_run_sound hp_co V_mo_relate C (fun _ _ _ _ _ _ _ hq => hq) [36] 8 _ _ _ _ _ _ _ ?_
      refine Exists.intro _ (And.intro hR.1.1 ?_)
      refine And.intro (fun c => ?_) (fun c => absurd (nI_le (show cn fi 4096 ≤ i by omega) (by omega)) c)
      refine L2 4096 0 H g I M (by omega) hxh hR (fun t ht => ⟨fun _ j hj => absurd hj (Nat.not_lt_zero _), fun _ => (hn t (by omega)).1⟩) (fun t ht => ⟨fun c => ?_, fun ⟨j, hj, _⟩ => absurd hj (Nat.not_lt_zero _)⟩)
      rw [(hn t (by omega)).2] at c
      cases c
    | succ m ih =>
      intro i H g I M hi hxh hR hn
      have hR2 := rlS_87 hR (updB I i true)
      have hR3 := rlS_88 hR2 (updB M i false)
      have hW := ih (i + 1) _ g _ _ (by omega) (hxM_set (hxM_set hxh _ (by omega)) _ (by omega)) hR3 (fun t ht => by
        by_cases c : t = i
        · rw [c, updB_s, updB_s]
          exact ⟨rfl, rfl⟩
        · rw [updB_n _ _ c, updB_n _ _ c]
          exact hn t (by omega))
      rw [← nI_1 i] at hW
      refine hp_run_sound hp_co V_mo_relate C (fun _ _ _ _ _ _ _ hq => hq) [6] 20 _ _ _ _ _ _ _ ?_
      refine Exists.intro _ (And.intro hR.1.1 ?_)
      refine And.intro (fun c => absurd c (nI_ge (show i < cn fi 4096 by omega) hb)) (fun c => ?_)
      refine Exists.intro _ (And.intro hR.1.1 ?_)
      refine Exists.intro 4096 (Exists.intro _ (And.intro hR.2.2.2.2.2.1 (And.intro (in_nI (by omega) (by decide)) (And.intro rfl ?_))))
      rw [nI_clamp (show i < 2 ^ 31 by omega), show hp_c 1 = zI true from rfl, upd_zI]
      refine Exists.intro _ (And.intro hR2.1.1 ?_)
      refine Exists.intro 4096 (Exists.intro _ (And.intro hR2.2.2.2.2.2.2 (And.intro (in_nI (by omega) (by decide)) (And.intro rfl ?_))))
      rw [nI_clamp (show i < 2 ^ 31 by omega), show hp_c 0 = zI false from rfl, upd_zI]
      exact hW
  refine hp_run_sound hp_co V_mo_relate C (fun _ _ _ _ _ _ _ hq => hq) [6] 8 _ _ _ _ _ _ _ ?_
  refine And.intro ⟨3, _, hC.1, rfl⟩ ?_
  refine ic_Q (c_mo_label l h s u f fi hF hC hf) (Nat.le_refl _) (Nat.le_refl _) (fun r h3 hq => ?_)
  obtain ⟨rfl, g, st, hH, hlb⟩ := hq
  have hC3 := moC_hL hC hH
  obtain ⟨-, -, -, -, -, -, ⟨I0, k87⟩, ⟨M0, k88⟩⟩ := id hC3.2.2
  exact L1 (cn fi 4096) 0 h3 g I0 M0 (by omega) (hxM_of hH.1 (by decide)) ⟨hC3, hx_at hH.1 (by decide) hf, hx_at hH.1 (by decide) he, hH.2.2.1, hlb, k87, k88⟩ (fun t ht => absurd ht (Nat.not_lt_zero _))
/-- touching up to the search -/
theorem m_touching_start (l : Launch) (s : St) (u : moT) (A B k : Nat) (hO : stOK s) (hA : A < s_B s + s_m s) (hB : B < s_B s + s_m s) (hk : k < 2 ^ 31) (F E T : Nat → Int64) (hF : shw s A F) (hE : shw s B E) (hT : grT E T) (fi M : Nat → Bool) (hfi : isF F 0 fi) (hM : ∀ t, t < cn fi 4096 → (M t = true ↔ mkT F fi T t)) {h : hp_H} (hC : moC h s u) {Q : hp_R → hp_H → Prop} {G : hp_G} (C : hp_ctx T_mo_touching Y_mo_touching l false 0 0 Q G)
    (hi : ∀ (h5 : hp_H) (M' : Nat → Bool), moC h5 s (0, cn fi 4096, u.2.2) → h5[88]? = some (BA 4096 M') → (∀ t, t < cn fi 4096 → M' t = M t) → hxM h h5 → hp_W G 54 [(0, .ref 75), (1, .int (nI A)), (2, .int (nI B)), (3, .int (nI k))] [] h5 false 0 0) : hp_W G 0 [(0, .ref 75), (1, .int (nI A)), (2, .int (nI B)), (3, .int (nI k))] [] h true 0 0 := by
  have t38 : ∀ h1, moC h1 s (0, u.2) → hxM h h1 → hp_W G 38 [(0, .ref 75), (1, .int (nI A)), (2, .int (nI B)), (3, .int (nI k))] [] h1 false 0 0 := by
    intro h1 hC1 hx1
    refine hp_run_sound hp_co V_mo_touching C (fun _ _ _ _ _ _ _ hq => hq) [54] 20 _ _ _ _ _ _ _ ?_
    refine And.intro ⟨3, _, hC1.1, rfl⟩ ?_
    refine ic_Q (c_mo_load l h1 s (0, u.2) A true hO hA hC1) (Nat.le_refl _) (Nat.le_refl _) (fun r h2 hq => ?_)
    obtain ⟨rfl, f1, rfl, s1⟩ := hq
    obtain ⟨z1, k1⟩ := mw_at hC1.2.2 (lw_or true)
    have hC2 := moC_81 hC1 f1 (lw_or true)
    refine And.intro ⟨3, _, hC2.1, rfl⟩ ?_
    refine ic_Q (c_mo_load l _ s (0, u.2) B false hO hB hC2) (Nat.le_refl _) (Nat.le_refl _) (fun r h3 hq => ?_)
    obtain ⟨rfl, f2, rfl, s2⟩ := hq
    have hC3 := moC_81 hC2 f2 (lw_or false)
    obtain ⟨z2, k2⟩ := mw_at hC2.2.2 (lw_or false)
    have hr1 := rw_of s1 hF
    have hr2 := rw_of s2 hE
    refine And.intro ⟨3, _, hC3.1, rfl⟩ ?_
    refine ic_Q (c_mo_relate l _ s (0, u.2) f1 f2 fi (isF_eq hr1 hfi) hC3 (by show ((h1.set 81 (LA 64 f1)).set 82 (LA 64 f2))[81]? = _; rw [hq_ne (by decide)]; exact hq_get k1) (hq_get k2)) (Nat.le_refl _) (Nat.le_refl _) (fun r h5 hq => ?_)
    obtain ⟨rfl, hx5, g, I, M', hR, hI, hM'⟩ := hq
    refine hi h5 M' hR.1 hR.2.2.2.2.2.2 (fun t ht => bool_ext ?_) (hxM_tr (hxM_set (a := 82) (hxM_set (a := 81) hx1 _ (by omega)) _ (by omega)) hx5)
    rw [hM' t ht, hM t ht]
    unfold mkT ofT
    refine exists_congr (fun j => and_congr_right (fun j1 => ?_))
    have ej : rzb true f2 1 1 (j % 64) (j / 64) = qs T j := by
      unfold qs
      rw [hT (j / 64) (j % 64) (by omega) (Nat.mod_lt _ (by decide))]
      unfold rzb
      rw [rzb_eq hr2 true 1 1 (show j / 64 < 64 by omega)]
    rw [qs_eq hr1 j1, ej]
    refine and_congr_right (fun _ => ?_)
    rw [and_comm]
    refine and_congr_right (fun _ => exists_congr (fun a => and_congr_right (fun _ => and_congr_right (fun _ => and_congr_left (fun _ => con_eq hr1)))))
  refine hp_run_sound hp_co V_mo_touching C (fun _ _ _ _ _ _ _ hq => hq) [38] 24 _ _ _ _ _ _ _ ?_
  refine And.intro ⟨3, _, hC.1, rfl⟩ ?_
  refine ic_P (c_mo_isLayer l h s u _ hC.1) (Nat.le_refl _) (Nat.le_refl _) ?_
  rw [lay_de hO hA]
  refine And.intro (fun q => absurd q (by decide)) (fun q => ?_)
  refine And.intro ⟨3, _, hC.1, rfl⟩ ?_
  refine ic_P (c_mo_isLayer l h s u _ hC.1) (Nat.le_refl _) (Nat.le_refl _) ?_
  rw [lay_de hO hB]
  refine And.intro (fun q => absurd q (by decide)) (fun q => ?_)
  refine And.intro (fun _ => ?_) (fun q => absurd (nI_pos' hk) q)
  refine And.intro (Or.inl rfl) (Exists.intro _ (And.intro hC.1 (And.intro (Nat.le_of_ble_eq_true rfl) (And.intro rfl (And.intro rfl ?_)))))
  refine Exists.intro _ (And.intro (hq_get hC.1) ?_)
  refine And.intro (fun q => ?_) (fun q => absurd (show (0 : Int32) ≤ 0 by decide) q)
  exact t38 _ (moC_cd hC 0) (hxM_75 h _)
/-- the search for the k-th marked shape -/
theorem m_touching_walk (l : Launch) (s : St) (u : moT) (A B : Int32) (k n : Nat) (hn : n ≤ 4096) (hk : k < 2 ^ 31) (hu : u.2.1 = n) {h5 : hp_H} (M : Nat → Bool) (hC : moC h5 s u) (h88 : h5[88]? = some (BA 4096 M)) {Q : hp_R → hp_H → Prop} {G : hp_G} (C : hp_ctx T_mo_touching Y_mo_touching l false 0 0 Q G)
    (hit : ∀ t, t < n → M t = true → k = cn M t → Q (.inl (some (.int (nI t)))) h5) (miss : (∀ t, t < n → M t = true → ¬ k = cn M t) → Q (.inl (some (.int (-1)))) h5) :
    hp_W G 54 [(0, .ref 75), (1, .int A), (2, .int B), (3, .int (nI k))] [] h5 false 0 0 := by
  have h75 : h5[75]? = some (mo75 s (u.1, n, u.2.2)) := by rw [← hu]; exact hC.1
  have key : ∀ (m t : Nat), t + m = n → (∀ t', t' < t → M t' = true → ¬ k = cn M t') → hp_W G 60 [(0, .ref 75), (1, .int A), (2, .int B), (3, .int (nI k)), (4, .int (nI k - nI (cn M t))), (5, .int (nI t))] [] h5 false 0 0 := by
    intro m
    induction m with
    | zero =>
      intro t ht hno
      refine hp_run_sound hp_co V_mo_touching C (fun _ _ _ _ _ _ _ hq => hq) [60] 8 _ _ _ _ _ _ _ ?_
      refine Exists.intro _ (And.intro h75 ?_)
      refine And.intro (fun c => ?_) (fun c => absurd (nI_le (show n ≤ t by omega) (by omega)) c)
      exact And.intro rfl (And.intro rfl (miss (fun t' h1 => hno t' (by omega))))
    | succ m ih =>
      intro t ht hno
      have hct := cn_le M t
      refine hp_run_sound hp_co V_mo_touching C (fun _ _ _ _ _ _ _ hq => hq) [60] 20 _ _ _ _ _ _ _ ?_
      refine Exists.intro _ (And.intro h75 ?_)
      refine And.intro (fun c => absurd c (nI_ge (show t < n by omega) (show n < 2 ^ 31 by omega))) (fun c => ?_)
      refine Exists.intro _ (And.intro h75 ?_)
      refine Exists.intro 4096 (Exists.intro _ (And.intro h88 (And.intro (in_nI (by omega) (by decide)) ?_)))
      rw [nI_clamp (show t < 2 ^ 31 by omega)]
      have hW := ih (t + 1) (by omega)
      rw [cn_s, ← nI_1 t] at hW
      cases hMt : M t with
      | false =>
        rw [hMt] at hW
        refine And.intro (fun _ => ?_) (fun q => absurd rfl q)
        exact hW (fun t' h1 h2 => by
          rcases Nat.lt_or_ge t' t with c | c
          · exact hno t' c h2
          · rw [show t' = t by omega, hMt] at h2
            cases h2)
      | true =>
        rw [hMt] at hW
        refine And.intro (fun q => absurd q (by decide)) (fun _ => ?_)
        refine And.intro (fun q => ?_) (fun q => ?_)
        · have q1 : ¬ k = cn M t := fun e => q (by rw [e]; exact Int32.sub_self _)
          have hW2 := hW (fun t' h1 h2 => by
            rcases Nat.lt_or_ge t' t with c | c
            · exact hno t' c h2
            · rw [show t' = t by omega]
              exact q1)
          rw [show cn M t + true.toNat = cn M t + 1 from rfl, ← sub_m1] at hW2
          exact hW2
        · exact And.intro rfl (And.intro rfl (hit t (by omega) hMt ((nI_eq hk (by omega)).mp ((sub_0 _ _).mp q))))
  have h0 := key n 0 (by omega) (fun t' h1 => absurd h1 (Nat.not_lt_zero _))
  rw [show nI k - nI (cn M 0) = nI k from Int32.sub_zero _] at h0
  refine hp_run_sound hp_co V_mo_touching C (fun _ _ _ _ _ _ _ hq => hq) [60] 8 _ _ _ _ _ _ _ ?_
  exact h0
set_option maxRecDepth 20000 in
theorem m_touching_1 (l : Launch) (s : St) (a b k : Int32) (hab : (a < 0 ∨ nI (s_B s + s_m s) ≤ a) ∨ (b < 0 ∨ nI (s_B s + s_m s) ≤ b) ∨ k < 0) : moM l Y_mo_touching [.int a, .int b, .int k] s 1 (.int 0) s := by
  rintro h cd ⟨u, rfl, hC⟩
  refine hp_start (T := T_mo_touching) (by decide) rfl (fun σ => Nat.le_of_ble_eq_true rfl) (fun G C => ?_)
  have t26 : hp_W G 26 [(0, .ref 75), (1, .int a), (2, .int b), (3, .int k)] [.int 1, .ref 75] h true 0 0 := by
    refine hp_run_sound hp_co V_mo_touching C (fun _ _ _ _ _ _ _ hq => hq) [38] 20 _ _ _ _ _ _ _ ?_
    refine And.intro (Or.inl rfl) (Exists.intro _ (And.intro hC.1 (And.intro (Nat.le_of_ble_eq_true rfl) (And.intro rfl (And.intro rfl ?_)))))
    refine Exists.intro _ (And.intro (hq_get hC.1) ?_)
    refine And.intro (fun q => absurd q (by decide)) (fun q => ?_)
    exact And.intro rfl (And.intro rfl (And.intro rfl ⟨hxM_75 h _, _, rfl, moC_cd hC 1⟩))
  refine hp_run_sound hp_co V_mo_touching C (fun _ _ _ _ _ _ _ hq => hq) [25, 26] 20 _ _ _ _ _ _ _ ?_
  refine And.intro ⟨3, _, hC.1, rfl⟩ ?_
  refine ic_P (c_mo_isLayer l h s u a hC.1) (Nat.le_refl _) (Nat.le_refl _) ?_
  by_cases h1 : a < 0 ∨ nI (s_B s + s_m s) ≤ a
  · rw [lay_no h1]
    exact And.intro (fun _ => t26) (fun q => absurd rfl q)
  · rw [show decide (¬ a < 0 ∧ ¬ nI (s_B s + s_m s) ≤ a) = true from decide_eq_true ⟨fun q => h1 (Or.inl q), fun q => h1 (Or.inr q)⟩]
    refine And.intro (fun q => absurd q (by decide)) (fun q => ?_)
    refine And.intro ⟨3, _, hC.1, rfl⟩ ?_
    refine ic_P (c_mo_isLayer l h s u b hC.1) (Nat.le_refl _) (Nat.le_refl _) ?_
    by_cases h2 : b < 0 ∨ nI (s_B s + s_m s) ≤ b
    · rw [lay_no h2]
      exact And.intro (fun _ => t26) (fun q => absurd rfl q)
    · rw [show decide (¬ b < 0 ∧ ¬ nI (s_B s + s_m s) ≤ b) = true from decide_eq_true ⟨fun q => h2 (Or.inl q), fun q => h2 (Or.inr q)⟩]
      refine And.intro (fun q => absurd q (by decide)) (fun q => ?_)
      have h3 := (hab.resolve_left h1).resolve_left h2
      exact And.intro (fun q => absurd q (Int32.not_le.mpr h3)) (fun _ => t26)
set_option maxRecDepth 20000 in
theorem m_touching_0 (l : Launch) (s : St) (A B t : Nat) (hO : stOK s) (hA : A < s_B s + s_m s) (hB : B < s_B s + s_m s) (F E T : Nat → Int64) (hF : shw s A F) (hE : shw s B E) (hT : grT E T) (fi M : Nat → Bool) (hfi : isF F 0 fi) (hM : ∀ t, t < cn fi 4096 → (M t = true ↔ mkT F fi T t)) (ht : t < cn fi 4096) (hMt : M t = true) :
    moM l Y_mo_touching [.int (nI A), .int (nI B), .int (nI (cn M t))] s 0 (.int (nI t)) s := by
  rintro h cd ⟨u, rfl, hC⟩
  have hb := cn_le fi 4096
  have hc := cn_le M t
  refine hp_start (T := T_mo_touching) (by decide) rfl (fun σ => Nat.le_of_ble_eq_true rfl) (fun G C => ?_)
  refine m_touching_start l s u A B (cn M t) hO hA hB (by omega) F E T hF hE hT fi M hfi hM hC C (fun h5 M' hC5 k88 hMM hx5 => ?_)
  refine m_touching_walk l s _ _ _ (cn M t) (cn fi 4096) hb (by omega) rfl M' hC5 k88 C (fun t' h1 h2 h3 => ?_) (fun hn => ?_)
  · rw [hMM t' h1] at h2
    rw [cn_congr t' (fun i hi => hMM i (by omega))] at h3
    rw [cn_inj h2 hMt h3.symm]
    exact ⟨rfl, hx5, _, rfl, hC5⟩
  · exact absurd (cn_congr t (fun i hi => (hMM i (by omega)).symm)) (hn t ht (by rw [hMM t ht]; exact hMt))
set_option maxRecDepth 20000 in
theorem m_touching_n (l : Launch) (s : St) (A B k : Nat) (hO : stOK s) (hA : A < s_B s + s_m s) (hB : B < s_B s + s_m s) (hk : k < 2 ^ 31) (F E T : Nat → Int64) (hF : shw s A F) (hE : shw s B E) (hT : grT E T) (fi M : Nat → Bool) (hfi : isF F 0 fi) (hM : ∀ t, t < cn fi 4096 → (M t = true ↔ mkT F fi T t)) (hkM : cn M (cn fi 4096) ≤ k) :
    moM l Y_mo_touching [.int (nI A), .int (nI B), .int (nI k)] s 0 (.int (-1)) s := by
  rintro h cd ⟨u, rfl, hC⟩
  have hb := cn_le fi 4096
  refine hp_start (T := T_mo_touching) (by decide) rfl (fun σ => Nat.le_of_ble_eq_true rfl) (fun G C => ?_)
  refine m_touching_start l s u A B k hO hA hB hk F E T hF hE hT fi M hfi hM hC C (fun h5 M' hC5 k88 hMM hx5 => ?_)
  refine m_touching_walk l s _ _ _ k (cn fi 4096) hb hk rfl M' hC5 k88 C (fun t' h1 h2 h3 => ?_) (fun hn => ⟨rfl, hx5, _, rfl, hC5⟩)
  exfalso
  rw [hMM t' h1] at h2
  rw [cn_congr t' (fun i hi => hMM i (by omega))] at h3
  have := cn_in h1 h2
  omega
