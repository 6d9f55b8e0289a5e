/-! the reference: label -/
/-- the heap while label runs -/
def hL (h : hp_H) (s : St) (u : moT) (H : hp_H) (sc : Nat) (g st : Nat → Int32) : Prop := hx [75, 84, 85] h H ∧ H[75]? = some (mo75 s (u.1, sc, u.2.2)) ∧ H[84]? = some (IA 4096 g) ∧ H[85]? = some (IA 4096 st)
theorem hL_75 {h : hp_H} {s : St} {u : moT} {H : hp_H} {sc : Nat} {g st : Nat → Int32} (a : hL h s u H sc g st) (sc' : Nat) : hL h s u (H.set 75 (mo75 s (u.1, sc', u.2.2))) sc' g st :=
  ⟨hx_set a.1 _ (by decide), hq_get a.2.1, by rw [hq_ne (by decide)]; exact a.2.2.1, by rw [hq_ne (by decide)]; exact a.2.2.2⟩
theorem hL_84 {h : hp_H} {s : St} {u : moT} {H : hp_H} {sc : Nat} {g st : Nat → Int32} (a : hL h s u H sc g st) (g' : Nat → Int32) : hL h s u (H.set 84 (IA 4096 g')) sc g' st :=
  ⟨hx_set a.1 _ (by decide), by rw [hq_ne (by decide)]; exact a.2.1, hq_get a.2.2.1, by rw [hq_ne (by decide)]; exact a.2.2.2⟩
theorem hL_85 {h : hp_H} {s : St} {u : moT} {H : hp_H} {sc : Nat} {g st : Nat → Int32} (a : hL h s u H sc g st) (st' : Nat → Int32) : hL h s u (H.set 85 (IA 4096 st')) sc g st' :=
  ⟨hx_set a.1 _ (by decide), by rw [hq_ne (by decide)]; exact a.2.1, by rw [hq_ne (by decide)]; exact a.2.2.1, hq_get a.2.2.2⟩
theorem moC_hL {h : hp_H} {s : St} {u : moT} (hC : moC h s u) {H : hp_H} {sc : Nat} {g st : Nat → Int32} (a : hL h s u H sc g st) : moC H s (u.1, sc, u.2.2) := by
  obtain ⟨x, a1, a2, a3⟩ := a
  obtain ⟨b1, b2, b3, b4, b5⟩ := hC.2.1
  obtain ⟨⟨f1, c1⟩, ⟨f2, c2⟩, ⟨f3, c3⟩, ⟨f4, c4⟩, ⟨f5, c5⟩, ⟨f6, c6⟩, ⟨f7, c7⟩, ⟨f8, c8⟩⟩ := hC.2.2
  exact ⟨a1, ⟨hx_at x (by decide) b1, hx_at x (by decide) b2, hx_at x (by decide) b3, hx_at x (by decide) b4, hx_at x (by decide) b5⟩, ⟨_, hx_at x (by decide) c1⟩, ⟨_, hx_at x (by decide) c2⟩, ⟨_, hx_at x (by decide) c3⟩, ⟨_, a2⟩, ⟨_, a3⟩, ⟨_, hx_at x (by decide) c6⟩, ⟨_, hx_at x (by decide) c7⟩, ⟨_, hx_at x (by decide) c8⟩⟩
theorem m1_ne {n : Nat} (h : n < 2 ^ 31) : ¬ nI n = -1 := fun e => by
  have := nI_pos h
  rw [e] at this
  exact this (by decide)
theorem if_upd (N : Nat → Bool) (g : Nat → Int32) (q : Nat) (v : Int32) : upd (fun j => if N j then v else g j) q v = fun j => if updB N q true j then v else g j := by
  funext j
  unfold upd
  by_cases e : j = q
  · rw [if_pos e, e, updB_s, if_pos rfl]
  · rw [if_neg e, updB_n _ _ e]
theorem if_sta (g : Nat → Int32) (k : Nat) (v : Int32) : upd g k v = fun j => if decide (j = k) then v else g j := by
  funext j
  unfold upd
  by_cases e : j = k
  · rw [if_pos e, if_pos (decide_eq_true e)]
  · rw [if_neg e, if_neg (by rw [decide_eq_false e]; decide)]
theorem nb_uq {p dd q q' : Nat} (h1 : nbP p dd q) (h2 : nbP p dd q') : q' = q := by
  match dd, h1, h2 with
  | 0, h1, h2 => have := h1.1; have := h2.1; omega
  | 1, h1, h2 => have := h1.1; have := h2.1; omega
  | 2, h1, h2 => have a : q = p + 64 := h1; have b : q' = p + 64 := h2; omega
  | n + 3, h1, h2 => have a : q + 64 = p := h1; have b : q' + 64 = p := h2; omega
set_option maxRecDepth 20000 in
theorem c_mo_label (l : Launch) (h : hp_H) (s : St) (u : moT) (f : Nat → Int64) (fi : Nat → Bool) (hF : isF f 0 fi) (hC : moC h s u) (hf : h[81]? = some (LA 64 f)) :
    hp_M l Y_mo_label [.ref 75] h false 0 0 (fun r h' => r = .inl none ∧ ∃ g st, hL h s u h' (cn fi 4096) g st ∧ lbS f fi g) := by
  refine hp_start (T := T_mo_label) (by decide) rfl (fun σ => Nat.le_of_ble_eq_true rfl) (fun G C => ?_)
  have hone : ∀ {H sc g st}, hL h s u H sc g st → H[81]? = some (LA 64 f) := fun a => hx_at a.1 (by decide) hf
  have c64 : ∀ k, k < 4096 → nI k - nI k / hp_c 64 * hp_c 64 = nI (k % 64) ∧ nI k / hp_c 64 = nI (k / 64) := fun k hk => ⟨pk_rem (d := 64) (by omega) (by decide) (by decide), pk_div (d := 64) (by omega) (by decide) (by decide)⟩
  have cnb := cn_4096 fi
  -- the loop over the squares
  have L2 : ∀ (m k : Nat) (H : hp_H) (g st : Nat → Int32), k + m = 4096 → hL h s u H (cn fi k) g st → lbK f fi k g → hp_W G 29 [(0, .ref 75), (1, .int (nI k))] [] H false 0 0 := by
    intro m
    induction m with
    | zero =>
      intro k H g st hk hH hLb
      have e : k = 4096 := by omega
      subst e
      refine hp_run_sound hp_co V_mo_label C (fun _ _ _ _ _ _ _ hq => hq) [29] 6 _ _ _ _ _ _ _ ?_
      refine And.intro (fun c => ?_) (fun c => absurd (nI_le (Nat.le_refl 4096) (by decide)) c)
      exact And.intro rfl (And.intro rfl (And.intro rfl ⟨g, st, hH, lb_all hF hLb⟩))
    | succ m ih =>
      intro k H g st hk hH hLb
      have hk4 : k < 4096 := by omega
      obtain ⟨e1, e2⟩ := c64 k hk4
      have cnk : cn fi k ≤ cn fi 4096 := cn_mono fi (by omega)
      -- on to the next square
      have nxt : ∀ (H : hp_H) (g st : Nat → Int32) (lv : hp_L), hL h s u H (cn fi (k + 1)) g st → lbK f fi (k + 1) g → hp_W G 242 [(0, .ref 75), (1, .int (nI k))] [] H false 0 0 := by
        intro H g st lv hH hLb
        have hW := ih (k + 1) H g st (by omega) hH hLb
        rw [← nI_1 k] at hW
        refine hp_run_sound hp_co V_mo_label C (fun _ _ _ _ _ _ _ hq => hq) [29] 4 _ _ _ _ _ _ _ ?_
        exact hW
      have skip : fi k = false → hp_W G 242 [(0, .ref 75), (1, .int (nI k))] [] H false 0 0 := fun hfk =>
        nxt H g st [] (by rw [show cn fi (k + 1) = cn fi k by rw [cn_s, hfk]; rfl]; exact hH) (lb_skip hLb hfk)
      refine hp_run_sound hp_co V_mo_label C (fun _ _ _ _ _ _ _ hq => hq) [242, 64] 24 _ _ _ _ _ _ _ ?_
      refine And.intro (fun c => absurd c (nI_ge (b := 4096) hk4 (by decide))) (fun c => ?_)
      refine Exists.intro _ (And.intro hH.2.1 ?_)
      refine Exists.intro .int (Exists.intro 4096 (Exists.intro _ (And.intro (Or.inl rfl) (And.intro hH.2.2.1 (And.intro (in_nI hk4 (by decide)) ?_)))))
      rw [nI_clamp (show k < 2 ^ 31 by omega)]
      refine And.intro (fun q => ?_) (fun q => ?_)
      · obtain ⟨a, a1, a2, a3, a4⟩ := lb_m1 hLb (by omega) hk4 q
        refine skip ?_
        cases hfk : fi k with
        | false => rfl
        | true =>
          have := isF_one hF (by omega) hk4 a2 hfk a3
          omega
      · have gk : g k = -1 := q
        refine And.intro (by decide) ?_
        refine And.intro (by decide) ?_
        refine And.intro ⟨3, _, hH.2.1, rfl⟩ ?_
        rw [e1, e2]
        refine ic_P (c_mo_isOne l H s _ (nI (k % 64)) (nI (k / 64)) f hH.2.1 (hone hH)) (Nat.le_refl _) (Nat.le_refl _) ?_
        rw [on1_in f (Nat.mod_lt _ (by decide)) (show k / 64 < 64 by omega), show bb (f (k / 64)) (k % 64) = qs f k from rfl]
        cases hq : qs f k with
        | false =>
          refine And.intro (fun q => absurd rfl q) (fun _ => ?_)
          refine skip ?_
          cases hfk : fi k with
          | false => rfl
          | true =>
            rw [((hF k hk4).mp hfk).1] at hq
            cases hq
        | true =>
          refine And.intro (fun _ => ?_) (fun q => absurd q (by decide))
          have hfk : fi k = true := by
            obtain ⟨a, a1, a2, a3⟩ := isF_first hF k k rfl hk4 hq
            rcases Nat.lt_or_ge a k with c | c
            · exfalso
              rcases hLb k hk4 with ⟨_, c2⟩ | ⟨_, b, b1, b2, b3, b4⟩
              · rw [c2 a c a2 a3] at hq
                cases hq
              · rw [gk] at b4
                have := cn_mono fi (show b ≤ 4096 by omega)
                exact m1_ne (by omega) b4.symm
            · rw [show a = k by omega] at a2
              exact a2
          have hcs : cn fi (k + 1) = cn fi k + 1 := by rw [cn_s, hfk]; rfl
          -- the flood
          have W : ∀ (M : Nat) (H : hp_H) (N : Nat → Bool) (d : Nat) (st : Nat → Int32), 2 * (4096 - cn N 4096) + d ≤ M → hL h s u H (cn fi k) (fun j => if N j then nI (cn fi k) else g j) st → flA f k N d st → flB f N d st → d ≤ cn N 4096 → hp_W G 83 [(0, .ref 75), (1, .int (nI k)), (2, .int (nI d))] [] H false 0 0 := by
            intro M
            induction M with
            | zero =>
              intro H N d st hM hH hA hB hd
              -- d is 0 here: the end
              have d0 : d = 0 := by omega
              subst d0
              refine hp_run_sound hp_co V_mo_label C (fun _ _ _ _ _ _ _ hq => hq) [242] 12 _ _ _ _ _ _ _ ?_
              refine And.intro (fun _ => ?_) (fun q => absurd (by decide) q)
              refine Exists.intro _ (And.intro hH.2.1 ?_)
              refine And.intro (Or.inl rfl) (Exists.intro _ (And.intro hH.2.1 (And.intro (Nat.le_of_ble_eq_true rfl) (And.intro rfl (And.intro rfl ?_)))))
              have hn := nxt _ _ st [] (hL_75 hH (cn fi (k + 1))) (lb_new hF hLb hk4 hfk hA hB)
              rw [hcs] at hn
              unfold mo75 MO at hn
              rw [show nI ((u.1, cn fi k + 1, u.2.2) : moT).2.1 = nI (cn fi k) + hp_c 1 from (nI_1 _).symm] at hn
              exact hp_W_pick [0, 1] hn
            | succ M iM =>
              intro H N d st hM hH hA hB hd
              have hN4 := cn_le N 4096
              cases d with
              | zero =>
                refine hp_run_sound hp_co V_mo_label C (fun _ _ _ _ _ _ _ hq => hq) [242] 12 _ _ _ _ _ _ _ ?_
                refine And.intro (fun _ => ?_) (fun q => absurd (by decide) q)
                refine Exists.intro _ (And.intro hH.2.1 ?_)
                refine And.intro (Or.inl rfl) (Exists.intro _ (And.intro hH.2.1 (And.intro (Nat.le_of_ble_eq_true rfl) (And.intro rfl (And.intro rfl ?_)))))
                have hn := nxt _ _ st [] (hL_75 hH (cn fi (k + 1))) (lb_new hF hLb hk4 hfk hA hB)
                rw [hcs] at hn
                unfold mo75 MO at hn
                rw [show nI ((u.1, cn fi k + 1, u.2.2) : moT).2.1 = nI (cn fi k) + hp_c 1 from (nI_1 _).symm] at hn
                exact hp_W_pick [0, 1] hn
              | succ d =>
                obtain ⟨p, hNp, hst⟩ := hA.2.2 d (by omega)
                have hp := hA.1 p hNp
                obtain ⟨p1, p2⟩ := c64 p hp.1
                obtain ⟨hA2, hC2⟩ := fl_pop hA hB hp.1 hst
                -- the four neighbours
                have D : ∀ (m' dd : Nat) (H : hp_H) (N : Nat → Bool) (d : Nat) (st : Nat → Int32), dd + m' = 4 → N p = true → 2 * (4096 - cn N 4096) + d ≤ M → hL h s u H (cn fi k) (fun j => if N j then nI (cn fi k) else g j) st → flA f k N d st → flC f N d st p dd → d + 1 ≤ cn N 4096 → hp_W G 100 [(0, .ref 75), (1, .int (nI k)), (2, .int (nI d)), (3, .int (nI p)), (4, .int (nI dd))] [] H false 0 0 := by
                  intro m'
                  induction m' with
                  | zero =>
                    intro dd H N d st hdd hNp hM hH hA hC hd
                    have e : dd = 4 := by omega
                    subst e
                    refine hp_run_sound hp_co V_mo_label C (fun _ _ _ _ _ _ _ hq => hq) [83] 8 _ _ _ _ _ _ _ ?_
                    refine And.intro (fun _ => ?_) (fun q => absurd (by decide) q)
                    exact hp_W_pick [0, 1, 2] (iM H N d st hM hH hA (fl_done hC) (by omega))
                  | succ m' im =>
                    intro dd H N d st hdd hNp hM hH hA hC hd
                    have hN4 := cn_le N 4096
                    -- the neighbour is known
                    have t161 : hp_W G 161 [(0, .ref 75), (1, .int (nI k)), (2, .int (nI d)), (3, .int (nI p)), (4, .int (nI dd)), (5, .int (nbX p dd)), (6, .int (nbY p dd))] [] H false 0 0 := by
                      refine hp_run_sound hp_co V_mo_label C (fun _ _ _ _ _ _ _ hq => hq) [100] 50 _ _ _ _ _ _ _ ?_
                      refine And.intro ⟨3, _, hH.2.1, rfl⟩ ?_
                      refine ic_P (c_mo_isOne l H s _ (nbX p dd) (nbY p dd) f hH.2.1 (hone hH)) (Nat.le_refl _) (Nat.le_refl _) ?_
                      rcases nb_on f hp.1 (show dd < 4 by omega) with ⟨o1, q, q1, q2, q3, q4⟩ | ⟨o1, o2⟩
                      · rw [o1]
                        refine And.intro (fun c => absurd c (by decide)) (fun _ => ?_)
                        refine Exists.intro _ (And.intro hH.2.1 ?_)
                        have e5 : hp_c 64 * nbY p dd + nbX p dd = nI q := q4
                        refine Exists.intro .int (Exists.intro 4096 (Exists.intro _ (And.intro (Or.inl rfl) (And.intro hH.2.2.1 (And.intro (show vp_in (hp_c 64 * nbY p dd + nbX p dd) 4096 from by rw [e5]; exact in_nI q1 (by decide)) ?_)))))
                        rw [e5, nI_clamp (show q < 2 ^ 31 by omega)]
                        cases hNq : N q with
                        | true =>
                          rw [if_pos rfl]
                          refine And.intro (fun _ => ?_) (fun c => absurd c (m1_ne (by omega)))
                          have hW := im (dd + 1) H N d st (by omega) hNp hM hH hA (fl_skip hC (fun q' r1 r2 r3 => by rw [nb_uq q2 r2]; exact hNq)) hd
                          rw [← nI_1 dd] at hW
                          exact hp_W_pick [0, 1, 2, 3, 4] hW
                        | false =>
                          have hgq := lb_q hF hLb hk4 hq gk q1 q3 (cnx_tr hp.2.2 (nb_adj hp.1 q1 hp.2.1 q3 q2))
                          rw [if_neg (by decide), hgq]
                          refine And.intro (fun c => absurd rfl c) (fun _ => ?_)
                          have cN := cn_updB hNq 4096 q1
                          have cN4 := cn_le (updB N q true) 4096
                          refine Exists.intro _ (And.intro hH.2.1 ?_)
                          refine Exists.intro _ (And.intro hH.2.1 ?_)
                          refine Exists.intro 4096 (Exists.intro _ (And.intro hH.2.2.1 (And.intro (show vp_in (hp_c 64 * nbY p dd + nbX p dd) 4096 from by rw [e5]; exact in_nI q1 (by decide)) ?_)))
                          rw [e5, nI_clamp (show q < 2 ^ 31 by omega)]
                          have hH2 := hL_84 hH (upd (fun j => if N j then nI (cn fi k) else g j) q (nI (cn fi k)))
                          have hH3 := hL_85 hH2 (upd st d (nI q))
                          obtain ⟨hA3, hC3⟩ := fl_push hA hC hNp q1 q3 q2 (fun q' r => nb_uq q2 r)
                          have hW := im (dd + 1) _ (updB N q true) (d + 1) (upd st d (nI q)) (by omega) (by by_cases e : p = q; rw [e, updB_s]; rw [updB_n _ _ e]; exact hNp) (by omega) (by rw [← if_upd N g q (nI (cn fi k))]; exact hH3) hA3 hC3 (by omega)
                          rw [← nI_1 dd, ← nI_1 d, ← e5] at hW
                          refine Exists.intro _ (And.intro hH2.2.1 ?_)
                          refine Exists.intro 4096 (Exists.intro _ (And.intro hH2.2.2.2 (And.intro (in_nI (show d < 4096 by omega) (by decide)) ?_)))
                          rw [nI_clamp (show d < 2 ^ 31 by omega)]
                          exact hp_W_pick [0, 1, 2, 3, 4] hW
                      · rw [o1]
                        refine And.intro (fun _ => ?_) (fun c => absurd rfl c)
                        have hW := im (dd + 1) H N d st (by omega) hNp hM hH hA (fl_skip hC (fun q' r1 r2 r3 => by rw [o2 q' r1 r2] at r3; cases r3)) hd
                        rw [← nI_1 dd] at hW
                        exact hp_W_pick [0, 1, 2, 3, 4] hW
                    unfold nbX nbY at t161
                    rw [← p1, ← p2] at t161
                    have hdd2 : dd = 0 ∨ dd = 1 ∨ dd = 2 ∨ dd = 3 := by omega
                    refine hp_run_sound hp_co V_mo_label C (fun _ _ _ _ _ _ _ hq => hq) [161] 40 _ _ _ _ _ _ _ ?_
                    refine And.intro (fun c => absurd c (nI_ge (b := 4) (by omega) (by decide))) (fun c => ?_)
                    refine And.intro (by decide) ?_
                    rcases hdd2 with e | e | e | e
                    · subst e
                      refine And.intro (fun c => absurd rfl c) (fun _ => ?_)
                      refine And.intro (by decide) ?_
                      refine And.intro (fun _ => ?_) (fun c => absurd c (by decide))
                      refine And.intro (fun _ => ?_) (fun c => absurd c (by decide))
                      exact t161
                    · subst e
                      refine And.intro (fun _ => ?_) (fun c => absurd c (by decide))
                      refine And.intro (fun c => absurd rfl c) (fun _ => ?_)
                      refine And.intro (by decide) ?_
                      refine And.intro (fun _ => ?_) (fun c => absurd c (by decide))
                      refine And.intro (fun _ => ?_) (fun c => absurd c (by decide))
                      exact t161
                    · subst e
                      refine And.intro (fun _ => ?_) (fun c => absurd c (by decide))
                      refine And.intro (fun _ => ?_) (fun c => absurd c (by decide))
                      refine And.intro (by decide) ?_
                      refine And.intro (fun c => absurd rfl c) (fun _ => ?_)
                      exact t161
                    · subst e
                      refine And.intro (fun _ => ?_) (fun c => absurd c (by decide))
                      refine And.intro (fun _ => ?_) (fun c => absurd c (by decide))
                      refine And.intro (by decide) ?_
                      refine And.intro (fun _ => ?_) (fun c => absurd c (by decide))
                      refine And.intro (fun c => absurd rfl c) (fun _ => ?_)
                      exact t161
                have hD := D 4 0 H N d st (by omega) hNp (by omega) hH hA2 hC2 (by omega)
                refine hp_run_sound hp_co V_mo_label C (fun _ _ _ _ _ _ _ hq => hq) [100] 14 _ _ _ _ _ _ _ ?_
                refine And.intro (fun c => absurd c (nI_nle (by omega) (by omega))) (fun c => ?_)
                refine Exists.intro _ (And.intro hH.2.1 ?_)
                have e8 : nI (d + 1) + hp_c (-1) = nI d := pk_m1 d
                refine Exists.intro .int (Exists.intro 4096 (Exists.intro _ (And.intro (Or.inl rfl) (And.intro hH.2.2.2 (And.intro (show vp_in (nI (d + 1) + hp_c (-1)) 4096 from by rw [e8]; exact in_nI (by omega) (by decide)) ?_)))))
                rw [e8, nI_clamp (show d < 2 ^ 31 by omega), hst]
                exact hD
          obtain ⟨fA, fB⟩ := fl_start hk4 hq st
          have c1 : cn (fun j => decide (j = k)) 4096 = 1 := by
            have := cn_updB (N := fun _ => false) (q := k) rfl 4096 hk4
            rw [cn_none (fun _ _ => rfl)] at this
            rw [← show cn (updB (fun _ => false) k true) 4096 = 1 from this]
            refine cn_congr 4096 (fun i _ => ?_)
            unfold updB
            by_cases e : i = k
            · rw [if_pos e]
              exact decide_eq_true e
            · rw [if_neg e]
              exact decide_eq_false e
          have hH2 := hL_85 hH (upd st 0 (nI k))
          have hH3 := hL_84 hH2 (upd g k (nI (cn fi k)))
          have h83 := W 10000 _ (fun j => decide (j = k)) 1 (upd st 0 (nI k)) (by rw [c1]; decide) (by rw [← if_sta g k (nI (cn fi k))]; exact hH3) fA fB (by rw [c1]; decide)
          refine hp_run_sound hp_co V_mo_label C (fun _ _ _ _ _ _ _ hq => hq) [83] 20 _ _ _ _ _ _ _ ?_
          refine Exists.intro _ (And.intro hH.2.1 ?_)
          refine Exists.intro 4096 (Exists.intro _ (And.intro hH.2.2.2 (And.intro (in_nI (show 0 < 4096 by decide) (by decide)) ?_)))
          rw [show (hp_c 0).toNatClampNeg = 0 from rfl]
          refine Exists.intro _ (And.intro hH2.2.1 ?_)
          refine Exists.intro _ (And.intro hH2.2.1 ?_)
          refine Exists.intro 4096 (Exists.intro _ (And.intro hH2.2.2.1 (And.intro (in_nI hk4 (by decide)) ?_)))
          rw [nI_clamp (show k < 2 ^ 31 by omega)]
          exact h83
  have L1 : ∀ (m k : Nat) (H : hp_H) (g st : Nat → Int32), k + m = 4096 → hL h s u H 0 g st → (∀ j, j < k → g j = -1) → hp_W G 7 [(0, .ref 75), (1, .int (nI k))] [] H false 0 0 := by
    intro m
    induction m with
    | zero =>
      intro k H g st hk hH hg
      refine hp_run_sound hp_co V_mo_label C (fun _ _ _ _ _ _ _ hq => hq) [29] 6 _ _ _ _ _ _ _ ?_
      refine And.intro (fun c => ?_) (fun c => absurd (nI_le (a := 4096) (by omega) (by omega)) c)
      exact L2 4096 0 H g st (by omega) hH (lb_0 f fi (fun j hj => hg j (by omega)))
    | succ m ih =>
      intro k H g st hk hH hg
      have hH2 := hL_84 hH (upd g k (-1))
      have hW := ih (k + 1) _ _ st (by omega) hH2 (fun j hj => by
        by_cases e : j = k
        · rw [e, pk_us]
        · rw [pk_un e]
          exact hg j (by omega))
      rw [← nI_1 k] at hW
      refine hp_run_sound hp_co V_mo_label C (fun _ _ _ _ _ _ _ hq => hq) [7] 12 _ _ _ _ _ _ _ ?_
      refine And.intro (fun c => absurd c (nI_ge (b := 4096) (by omega) (by decide))) (fun c => ?_)
      refine Exists.intro _ (And.intro hH.2.1 ?_)
      refine Exists.intro 4096 (Exists.intro _ (And.intro hH.2.2.1 (And.intro (in_nI (show k < 4096 by omega) (by decide)) ?_)))
      rw [nI_clamp (show k < 2 ^ 31 by omega)]
      exact hW
  obtain ⟨-, -, -, ⟨g0, k84⟩, ⟨st0, k85⟩, -⟩ := id hC.2.2
  have h0 : hL h s u (h.set 75 (mo75 s (u.1, 0, u.2.2))) 0 g0 st0 := ⟨hx_set (hx_rf _ _) _ (by decide), hq_get hC.1, by rw [hq_ne (by decide)]; exact k84, by rw [hq_ne (by decide)]; exact k85⟩
  refine hp_run_sound hp_co V_mo_label C (fun _ _ _ _ _ _ _ hq => hq) [7] 10 _ _ _ _ _ _ _ ?_
  refine And.intro (Or.inl rfl) (Exists.intro _ (And.intro hC.1 (And.intro (Nat.le_of_ble_eq_true rfl) (And.intro rfl (And.intro rfl ?_)))))
  exact L1 4096 0 _ g0 st0 (by omega) h0 (fun j hj => absurd hj (Nat.not_lt_zero _))
