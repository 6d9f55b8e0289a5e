/-! the reference: join, nets, netOf -/
/-- the heap while join runs -/
def jnS (h : hp_H) (H : hp_H) (z : Nat → Int32) : Prop := hx [86] h H ∧ H[86]? = some (IA 4096 z)
theorem jn_set {h H : hp_H} {z : Nat → Int32} (a : jnS h H z) (z' : Nat → Int32) : jnS h (H.set 86 (IA 4096 z')) z' := ⟨hx_set a.1 _ (by decide), hq_get a.2⟩
set_option maxRecDepth 20000 in
theorem c_mo_join (l : Launch) (h : hp_H) (s : St) (u : moT) (f : Nat → Int64) (g : Nat → Int32) (fi fj : Nat → Bool) (hF : isF f 0 fi) (hN : isF f 1 fj) (hC : moC h s (u.1, cn fi 4096, u.2.2)) (hf : h[81]? = some (LA 64 f)) (hg : h[84]? = some (IA 4096 g)) (hlb : lbS f fi g) :
    hp_M l Y_mo_join [.ref 75] h false 0 0 (fun r h' => r = .inl none ∧ ∃ N w, jnS h h' (zf (cn fi 4096) N w) ∧ (∀ t, t < cn fi 4096 → N t < cn fi 4096) ∧ ∀ b a, b < 4096 → a < 4096 → fi b = true → fj a = true → cnx (adj f 1) a b → N (cn fi b) = cn fi a) := by
  have hb := cn_4096 fi
  have hb2 := cn_le fi 4096
  refine hp_start (T := T_mo_join) (by decide) rfl (fun σ => Nat.le_of_ble_eq_true rfl) (fun G C => ?_)
  have h75 : ∀ {H z}, jnS h H z → H[75]? = some (mo75 s (u.1, cn fi 4096, u.2.2)) := fun a => hx_at a.1 (by decide) hC.1
  have h84 : ∀ {H z}, jnS h H z → H[84]? = some (IA 4096 g) := fun a => hx_at a.1 (by decide) hg
  have h81 : ∀ {H z}, jnS h H z → H[81]? = some (LA 64 f) := fun a => hx_at a.1 (by decide) hf
  -- numbers stay below the count
  have ntB : ∀ N, ntI f fi N → ∀ t, t < cn fi 4096 → N t < cn fi 4096 := fun N hI t ht => by
    obtain ⟨b, b1, b2, b3⟩ := cn_inv ht
    obtain ⟨b', c1, c2, c3, c4⟩ := hI b b1 b2
    rw [← b3, c4]
    exact cn_in (by omega) c2
  have W : ∀ (S : Nat) (H : hp_H) (N : Nat → Nat) (w : Nat → Int32), sm N (cn fi 4096) = S → jnS h H (zf (cn fi 4096) N w) → ntI f fi N → hp_W G 29 [(0, .ref 75)] [] H false 0 0 := by
    intro S
    induction S using Nat.strongRecOn with
    | ind S iS =>
    intro H0 N0 w hS hH0 hI0
    have K : ∀ (m k : Nat) (H : hp_H) (N : Nat → Nat) (more : Bool), k + m = 4096 → jnS h H (zf (cn fi 4096) N w) → ntI f fi N → (more = false → N = N0 ∧ ntJ f g N k 0) → (more = true → sm N (cn fi 4096) < S) → hp_W G 33 [(0, .ref 75), (1, .int (zI more)), (2, .int (nI k))] [] H false 0 0 := by
      intro m
      induction m with
      | zero =>
        intro k H N more hk hH hI hf0 ht0
        have e : k = 4096 := by omega
        subst e
        refine hp_run_sound hp_co V_mo_join C (fun _ _ _ _ _ _ _ hq => hq) [29] 10 _ _ _ _ _ _ _ ?_
        refine And.intro (fun c => ?_) (fun c => absurd (nI_le (Nat.le_refl 4096) (by decide)) c)
        cases more with
        | false =>
          refine And.intro (fun _ => ?_) (fun q => absurd rfl q)
          exact And.intro rfl (And.intro rfl (And.intro rfl ⟨N, w, hH, ntB N hI, fun b a hb ha b1 a1 hc => nt_end hF hN hlb hI (hf0 rfl).2 hb ha b1 a1 hc⟩))
        | true =>
          refine And.intro (fun q => absurd q (by decide)) (fun _ => ?_)
          exact hp_W_pick [0] (iS _ (ht0 rfl) H N w rfl hH hI)
      | succ m ih =>
        intro k H N more hk hH hI hf0 ht0
        have hk4 : k < 4096 := by omega
        have e1 : nI k - nI k / hp_c 64 * hp_c 64 = nI (k % 64) := pk_rem (d := 64) (by omega) (by decide) (by decide)
        have e2 : nI k / hp_c 64 = nI (k / 64) := pk_div (d := 64) (by omega) (by decide) (by decide)
        have D : ∀ (m' d : Nat) (H : hp_H) (N : Nat → Nat) (more : Bool), d + m' = 2 → jnS h H (zf (cn fi 4096) N w) → ntI f fi N → (more = false → N = N0 ∧ ntJ f g N k d) → (more = true → sm N (cn fi 4096) < S) → hp_W G 42 [(0, .ref 75), (1, .int (zI more)), (2, .int (nI k)), (3, .int (nI d))] [] H false 0 0 := by
          intro m'
          induction m' with
          | zero =>
            intro d H N more hd hH hI hf0 ht0
            have e : d = 2 := by omega
            subst e
            have hW := ih (k + 1) H N more (by omega) hH hI (fun q => ⟨(hf0 q).1, ntJ_row (hf0 q).2⟩) ht0
            rw [← nI_1 k] at hW
            refine hp_run_sound hp_co V_mo_join C (fun _ _ _ _ _ _ _ hq => hq) [33] 8 _ _ _ _ _ _ _ ?_
            refine And.intro (fun c => ?_) (fun c => absurd (nI_le (Nat.le_refl 2) (by decide)) c)
            exact hp_W_pick [0, 1, 2] hW
          | succ m' im =>
            intro d H N more hd hH hI hf0 ht0
            cases hq : qs f k with
            | false =>
              have gk : g k = -1 := by
                rcases hlb k hk4 with ⟨_, c⟩ | ⟨c, _⟩
                · exact c
                · rw [hq] at c
                  cases c
              have hW := ih (k + 1) H N more (by omega) hH hI (fun q => ⟨(hf0 q).1, ntJ_no (hf0 q).2 hq⟩) ht0
              rw [← nI_1 k] at hW
              refine hp_run_sound hp_co V_mo_join C (fun _ _ _ _ _ _ _ hq => hq) [33] 16 _ _ _ _ _ _ _ ?_
              refine And.intro (fun c => absurd c (nI_ge (b := 2) (by omega) (by decide))) (fun c => ?_)
              refine Exists.intro _ (And.intro (h75 hH) ?_)
              refine Exists.intro .int (Exists.intro 4096 (Exists.intro _ (And.intro (Or.inl rfl) (And.intro (h84 hH) (And.intro (in_nI hk4 (by decide)) ?_)))))
              rw [nI_clamp (show k < 2 ^ 31 by omega), gk]
              refine And.intro (fun _ => ?_) (fun q => absurd rfl q)
              exact hp_W_pick [0, 1, 2] hW
            | true =>
              obtain ⟨b1, p1, p2, p3, p4, p5, p6⟩ := lb_cl hlb hk4 hq
              -- on to the next neighbour
              have nx : ∀ (H : hp_H) (N : Nat → Nat) (more : Bool), jnS h H (zf (cn fi 4096) N w) → ntI f fi N → (more = false → N = N0 ∧ ntJ f g N k (d + 1)) → (more = true → sm N (cn fi 4096) < S) → hp_W G 199 [(0, .ref 75), (1, .int (zI more)), (2, .int (nI k)), (3, .int (nI d))] [] H false 0 0 := by
                intro H N more hH hI hf0 ht0
                have hW := im (d + 1) H N more (by omega) hH hI hf0 ht0
                rw [← nI_1 d] at hW
                refine hp_run_sound hp_co V_mo_join C (fun _ _ _ _ _ _ _ hq => hq) [42] 4 _ _ _ _ _ _ _ ?_
                exact hW
              have t81 : hp_W G 81 [(0, .ref 75), (1, .int (zI more)), (2, .int (nI k)), (3, .int (nI d)), (4, .int (dgX k d)), (5, .int (dgY k))] [] H false 0 0 := by
                rcases dg_on f hk4 (show d < 2 by omega) with ⟨o1, q, q1, q2, q3, q4⟩ | ⟨o1, o2⟩
                · obtain ⟨b2, r1, r2, r3, r4, r5, r6⟩ := lb_cl hlb q1 q3
                  have hcn : cnx (adj f 1) b1 b2 := cnx_tr (con_01 p3) (cnx_tr (cnx_of (dg_adj hk4 q1 hq q3 q2)) (cnx_sy (con_01 r3)))
                  generalize ht1 : cn fi b1 = t1 at p4 p5 p6
                  generalize ht2 : cn fi b2 = t2 at r4 r5 r6
                  have n1 := ntB N hI t1 p6
                  have n2 := ntB N hI t2 r6
                  have e5 : hp_c 64 * dgY k + dgX k d = nI q := q4
                  -- both are put
                  have t181 : ∀ mr, mr = (more || decide (N t1 ≠ N t2)) → hp_W G 181 [(0, .ref 75), (1, .int (zI mr)), (2, .int (nI k)), (3, .int (nI d)), (4, .int (dgX k d)), (5, .int (dgY k)), (6, .int (nI t1)), (7, .int (nI t2)), (8, .int (nI (min (N t1) (N t2))))] [] H false 0 0 := by
                    intro mr hmr
                    have hH2 := jn_set hH (upd (zf (cn fi 4096) N w) t1 (nI (min (N t1) (N t2))))
                    have hH3 := jn_set hH2 (upd (upd (zf (cn fi 4096) N w) t1 (nI (min (N t1) (N t2)))) t2 (nI (min (N t1) (N t2))))
                    have hI2 := nt_step hF hI p1 r1 p2 r2 hcn
                    rw [ht1, ht2] at hI2
                    have hW := nx _ (updN (updN N t1 (min (N t1) (N t2))) t2 (min (N t1) (N t2))) mr (by rw [← zf_upd _ _ r6, ← zf_upd _ _ p6]; exact hH3) hI2
                      (fun q0 => by
                        rw [q0] at hmr
                        have hm0 : more = false ∧ N t1 = N t2 := by
                          cases more with
                          | true => cases hmr
                          | false =>
                            refine ⟨rfl, Classical.byContradiction (fun c => ?_)⟩
                            rw [decide_eq_true c] at hmr
                            cases hmr
                        have eN : updN (updN N t1 (min (N t1) (N t2))) t2 (min (N t1) (N t2)) = N := by
                          rw [show min (N t1) (N t2) = N t1 by have := hm0.2; omega, updN_self, show N t1 = N t2 from hm0.2, updN_self]
                        rw [eN]
                        obtain ⟨w1, w2⟩ := hf0 hm0.1
                        refine ⟨w1, ntJ_s w2 (fun q' z1 z2 z3 z4 => ?_)⟩
                        have eq : q' = q := by
                          rcases (show d = 0 ∨ d = 1 by omega) with e | e
                          · subst e
                            exact z4.1.trans q2.1.symm
                          · subst e
                            exact z4.1.trans q2.1.symm
                        rw [eq, p5, r5]
                        exact hm0.2)
                      (fun q0 => by
                        by_cases c : N t1 = N t2
                        · have hm0 : more = true := by
                            rw [q0] at hmr
                            rw [decide_eq_false (fun z => z c), Bool.or_false] at hmr
                            exact hmr.symm
                          have eN : updN (updN N t1 (min (N t1) (N t2))) t2 (min (N t1) (N t2)) = N := by
                            rw [show min (N t1) (N t2) = N t1 by omega, updN_self, c, updN_self]
                          rw [eN]
                          exact ht0 hm0
                        · have := sm_join p6 r6 c
                          cases hmm : more with
                          | true =>
                            have := ht0 hmm
                            omega
                          | false =>
                            rw [← hS, ← (hf0 hmm).1]
                            omega)
                    refine hp_run_sound hp_co V_mo_join C (fun _ _ _ _ _ _ _ hq => hq) [199] 12 _ _ _ _ _ _ _ ?_
                    refine Exists.intro _ (And.intro (h75 hH) ?_)
                    refine Exists.intro 4096 (Exists.intro _ (And.intro hH.2 (And.intro (in_nI (by omega) (by decide)) ?_)))
                    rw [nI_clamp (show t1 < 2 ^ 31 by omega)]
                    refine Exists.intro _ (And.intro (h75 hH2) ?_)
                    refine Exists.intro 4096 (Exists.intro _ (And.intro hH2.2 (And.intro (in_nI (by omega) (by decide)) ?_)))
                    rw [nI_clamp (show t2 < 2 ^ 31 by omega)]
                    exact hp_W_pick [0, 1, 2, 3] hW
                  have t154 : hp_W G 154 [(0, .ref 75), (1, .int (zI more)), (2, .int (nI k)), (3, .int (nI d)), (4, .int (dgX k d)), (5, .int (dgY k)), (6, .int (nI t1)), (7, .int (nI t2)), (8, .int (nI (min (N t1) (N t2))))] [] H false 0 0 := by
                    refine hp_run_sound hp_co V_mo_join C (fun _ _ _ _ _ _ _ hq => hq) [181] 20 _ _ _ _ _ _ _ ?_
                    cases more with
                    | true => exact And.intro (fun _ => t181 true rfl) (fun q => absurd q (by decide))
                    | false =>
                      refine And.intro (fun q => absurd rfl q) (fun _ => ?_)
                      refine Exists.intro _ (And.intro (h75 hH) ?_)
                      refine Exists.intro .int (Exists.intro 4096 (Exists.intro _ (And.intro (Or.inl rfl) (And.intro hH.2 (And.intro (in_nI (by omega) (by decide)) ?_)))))
                      rw [nI_clamp (show t1 < 2 ^ 31 by omega), zf_at _ _ p6]
                      refine Exists.intro _ (And.intro (h75 hH) ?_)
                      refine Exists.intro .int (Exists.intro 4096 (Exists.intro _ (And.intro (Or.inl rfl) (And.intro hH.2 (And.intro (in_nI (by omega) (by decide)) ?_)))))
                      rw [nI_clamp (show t2 < 2 ^ 31 by omega), zf_at _ _ r6]
                      refine And.intro (fun q => ?_) (fun q => ?_)
                      · exact t181 false (by rw [decide_eq_false (fun z => z ((nI_eq (by omega) (by omega)).mp q))]; rfl)
                      · exact t181 true (by rw [decide_eq_true (p := N t1 ≠ N t2) (fun z => q (congrArg nI z))]; rfl)
                  refine hp_run_sound hp_co V_mo_join C (fun _ _ _ _ _ _ _ hq => hq) [154] 40 _ _ _ _ _ _ _ ?_
                  refine And.intro ⟨3, _, h75 hH, rfl⟩ ?_
                  refine ic_P (c_mo_isOne l H s _ (dgX k d) (dgY k) f (h75 hH) (h81 hH)) (Nat.le_refl _) (Nat.le_refl _) ?_
                  rw [o1]
                  refine And.intro (fun _ => ?_) (fun c => absurd c (by decide))
                  refine Exists.intro _ (And.intro (h75 hH) ?_)
                  refine Exists.intro .int (Exists.intro 4096 (Exists.intro _ (And.intro (Or.inl rfl) (And.intro (h84 hH) (And.intro (in_nI hk4 (by decide)) ?_)))))
                  rw [nI_clamp (show k < 2 ^ 31 by omega), p4]
                  refine Exists.intro _ (And.intro (h75 hH) ?_)
                  refine Exists.intro .int (Exists.intro 4096 (Exists.intro _ (And.intro (Or.inl rfl) (And.intro (h84 hH) (And.intro (show vp_in (hp_c 64 * dgY k + dgX k d) 4096 from by rw [e5]; exact in_nI q1 (by decide)) ?_)))))
                  rw [e5, nI_clamp (show q < 2 ^ 31 by omega), r4]
                  refine Exists.intro _ (And.intro (h75 hH) ?_)
                  refine Exists.intro .int (Exists.intro 4096 (Exists.intro _ (And.intro (Or.inl rfl) (And.intro hH.2 (And.intro (in_nI (by omega) (by decide)) ?_)))))
                  rw [nI_clamp (show t1 < 2 ^ 31 by omega), zf_at _ _ p6]
                  refine Exists.intro _ (And.intro (h75 hH) ?_)
                  refine Exists.intro .int (Exists.intro 4096 (Exists.intro _ (And.intro (Or.inl rfl) (And.intro hH.2 (And.intro (in_nI (by omega) (by decide)) ?_)))))
                  rw [nI_clamp (show t2 < 2 ^ 31 by omega), zf_at _ _ r6]
                  refine And.intro (fun q => ?_) (fun q => ?_)
                  · have q5 : N t2 ≤ N t1 := (nI_leI (by omega) (by omega)).mp q
                    rw [show min (N t1) (N t2) = N t2 by omega] at t154
                    refine Exists.intro _ (And.intro (h75 hH) ?_)
                    refine Exists.intro .int (Exists.intro 4096 (Exists.intro _ (And.intro (Or.inl rfl) (And.intro hH.2 (And.intro (in_nI (by omega) (by decide)) ?_)))))
                    rw [nI_clamp (show t2 < 2 ^ 31 by omega), zf_at _ _ r6]
                    exact t154
                  · have q5 : ¬ N t2 ≤ N t1 := fun c => q ((nI_leI (by omega) (by omega)).mpr c)
                    rw [show min (N t1) (N t2) = N t1 by omega] at t154
                    refine Exists.intro _ (And.intro (h75 hH) ?_)
                    refine Exists.intro .int (Exists.intro 4096 (Exists.intro _ (And.intro (Or.inl rfl) (And.intro hH.2 (And.intro (in_nI (by omega) (by decide)) ?_)))))
                    rw [nI_clamp (show t1 < 2 ^ 31 by omega), zf_at _ _ p6]
                    exact t154
                · have hW := nx H N more hH hI (fun q => ⟨(hf0 q).1, ntJ_s (hf0 q).2 (fun q' z1 z2 z3 z4 => by rw [o2 q' z1 z4] at z3; cases z3)⟩) ht0
                  refine hp_run_sound hp_co V_mo_join C (fun _ _ _ _ _ _ _ hq => hq) [199] 12 _ _ _ _ _ _ _ ?_
                  refine And.intro ⟨3, _, h75 hH, rfl⟩ ?_
                  refine ic_P (c_mo_isOne l H s _ (dgX k d) (dgY k) f (h75 hH) (h81 hH)) (Nat.le_refl _) (Nat.le_refl _) ?_
                  rw [o1]
                  refine And.intro (fun c => absurd rfl c) (fun _ => ?_)
                  exact hp_W_pick [0, 1, 2, 3] hW
              unfold dgX dgY at t81
              rw [← e1, ← e2] at t81
              refine hp_run_sound hp_co V_mo_join C (fun _ _ _ _ _ _ _ hq => hq) [81] 30 _ _ _ _ _ _ _ ?_
              refine And.intro (fun c => absurd c (nI_ge (b := 2) (by omega) (by decide))) (fun c => ?_)
              refine Exists.intro _ (And.intro (h75 hH) ?_)
              refine Exists.intro .int (Exists.intro 4096 (Exists.intro _ (And.intro (Or.inl rfl) (And.intro (h84 hH) (And.intro (in_nI hk4 (by decide)) ?_)))))
              rw [nI_clamp (show k < 2 ^ 31 by omega), p4]
              refine And.intro (fun q => absurd q (m1_ne (by omega))) (fun _ => ?_)
              refine And.intro (by decide) ?_
              rcases (show d = 0 ∨ d = 1 by omega) with e | e
              · subst e
                refine And.intro (fun c => absurd rfl c) (fun _ => ?_)
                refine And.intro (by decide) ?_
                exact t81
              · subst e
                refine And.intro (fun _ => ?_) (fun c => absurd c (by decide))
                refine And.intro (by decide) ?_
                exact t81
        have h0 := D 2 0 H N more (by omega) hH hI hf0 ht0
        refine hp_run_sound hp_co V_mo_join C (fun _ _ _ _ _ _ _ hq => hq) [42] 8 _ _ _ _ _ _ _ ?_
        refine And.intro (fun c => absurd c (nI_ge (b := 4096) hk4 (by decide))) (fun c => ?_)
        exact h0
    have h0 := K 4096 0 H0 N0 false (by omega) hH0 hI0 (fun _ => ⟨rfl, fun k' d' q h1 => by omega⟩) (fun q => by cases q)
    refine hp_run_sound hp_co V_mo_join C (fun _ _ _ _ _ _ _ hq => hq) [33] 8 _ _ _ _ _ _ _ ?_
    exact h0
  have L1 : ∀ (m i : Nat) (H : hp_H) (z : Nat → Int32), i + m = cn fi 4096 → jnS h H z → (∀ j, j < i → z j = nI j) → hp_W G 2 [(0, .ref 75), (1, .int (nI i))] [] H false 0 0 := by
    intro m
    induction m with
    | zero =>
      intro i H z hi hH hz
      have ez : z = zf (cn fi 4096) (fun j => j) z := by
        funext j
        unfold zf
        by_cases c : j < cn fi 4096
        · rw [if_pos c, hz j (by omega)]
        · rw [if_neg c]
      rw [ez] at hH
      refine hp_run_sound hp_co V_mo_join C (fun _ _ _ _ _ _ _ hq => hq) [29] 12 _ _ _ _ _ _ _ ?_
      refine Exists.intro _ (And.intro (h75 hH) ?_)
      refine And.intro (fun c => ?_) (fun c => absurd (nI_le (show cn fi 4096 ≤ i by omega) (by omega)) c)
      refine And.intro (fun q => absurd q (by decide)) (fun _ => ?_)
      exact hp_W_pick [0] (W _ H (fun j => j) z rfl hH nt_0)
    | succ m ih =>
      intro i H z hi hH hz
      have hH2 := jn_set hH (upd z i (nI i))
      have hW := ih (i + 1) _ _ (by omega) hH2 (fun j hj => by
        by_cases c : j = i
        · rw [c, pk_us]
        · rw [pk_un c]
          exact hz j (by omega))
      rw [← nI_1 i] at hW
      refine hp_run_sound hp_co V_mo_join C (fun _ _ _ _ _ _ _ hq => hq) [2] 12 _ _ _ _ _ _ _ ?_
      refine Exists.intro _ (And.intro (h75 hH) ?_)
      refine And.intro (fun c => absurd c (nI_ge (show i < cn fi 4096 by omega) hb)) (fun c => ?_)
      refine Exists.intro _ (And.intro (h75 hH) ?_)
      refine Exists.intro 4096 (Exists.intro _ (And.intro hH.2 (And.intro (in_nI (by omega) (by decide)) ?_)))
      rw [nI_clamp (show i < 2 ^ 31 by omega)]
      exact hW
  obtain ⟨-, -, -, -, -, ⟨z0, k86⟩, -⟩ := id hC.2.2
  refine hp_run_sound hp_co V_mo_join C (fun _ _ _ _ _ _ _ hq => hq) [2] 4 _ _ _ _ _ _ _ ?_
  exact hp_W_dirty (L1 (cn fi 4096) 0 h z0 (by omega) ⟨hx_rf _ _, k86⟩ (fun j hj => absurd hj (Nat.not_lt_zero _)))
