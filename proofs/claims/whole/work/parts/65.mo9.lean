/-! the reference: isReady, shapes, at -/
/-- a layer's squares labelled -/
def rdS (s : St) (L : Nat) (fi : Nat → Bool) (u : moT) (h' : hp_H) (f : Nat → Int64) (g : Nat → Int32) : Prop := moC h' s (0, cn fi 4096, u.2.2) ∧ h'[81]? = some (LA 64 f) ∧ shw s L f ∧ h'[84]? = some (IA 4096 g) ∧ lbS f fi g
theorem hxM_hx {h h1 h2 : hp_H} (a : hxM h h1) {ps : List Nat} (b : hx ps h1 h2) (hp : ∀ q ∈ ps, 75 ≤ q ∧ q < 89) : hxM h h2 := hxM_tr a (hxM_of b hp)
set_option maxRecDepth 20000 in
theorem c_mo_isReady_no (l : Launch) (h : hp_H) (s : St) (u : moT) (x : Int32) (hx0 : x < 0 ∨ nI (s_B s + s_m s) ≤ x) (hC : moC h s u) : hp_M l Y_mo_isReady [.ref 75, .int x] h false 0 0 (hq_P (.inl (some (.int 0))) (h.set 75 (mo75 s (1, u.2)))) := by
  refine hp_start (T := T_mo_isReady) (by decide) rfl (fun σ => Nat.le_of_ble_eq_true rfl) (fun G C => ?_)
  refine hp_run_sound hp_co V_mo_isReady C (fun _ _ _ _ _ _ _ hq => hq) [26] 20 _ _ _ _ _ _ _ ?_
  refine And.intro ⟨3, _, hC.1, rfl⟩ ?_
  refine ic_P (c_mo_isLayer l h s u x hC.1) (Nat.le_refl _) (Nat.le_refl _) ?_
  rw [lay_no hx0]
  refine And.intro (fun _ => ?_) (fun q => absurd rfl q)
  refine And.intro (Or.inl rfl) (Exists.intro _ (And.intro hC.1 (And.intro (Nat.le_of_ble_eq_true rfl) (And.intro rfl (And.intro rfl ?_)))))
  refine Exists.intro _ (And.intro (hq_get hC.1) ?_)
  refine And.intro (fun q => absurd q (by decide)) (fun q => ?_)
  exact And.intro rfl (And.intro rfl (And.intro rfl rfl))
set_option maxRecDepth 20000 in
theorem c_mo_isReady (l : Launch) (h : hp_H) (s : St) (u : moT) (L : Nat) (hO : stOK s) (hL : L < s_B s + s_m s) (F : Nat → Int64) (hF : shw s L F) (fi : Nat → Bool) (hfi : isF F 0 fi) (hC : moC h s u) : hp_M l Y_mo_isReady [.ref 75, .int (nI L)] h false 0 0 (fun r h' => r = .inl (some (.int 1)) ∧ hxM h h' ∧ ∃ f g, rdS s L fi u h' f g) := by
  refine hp_start (T := T_mo_isReady) (by decide) rfl (fun σ => Nat.le_of_ble_eq_true rfl) (fun G C => ?_)
  have t26 : ∀ h1, moC h1 s (0, u.2) → hxM h h1 → hp_W G 26 [(0, .ref 75), (1, .int (nI L))] [] h1 false 0 0 := by
    intro h1 hC1 hx1
    refine hp_run_sound hp_co V_mo_isReady C (fun _ _ _ _ _ _ _ hq => hq) [] 20 _ _ _ _ _ _ _ ?_
    refine And.intro ⟨3, _, hC1.1, rfl⟩ ?_
    refine ic_Q (c_mo_load l h1 s (0, u.2) L true hO hL hC1) (Nat.le_refl _) (Nat.le_refl _) (fun r h2 hq => ?_)
    obtain ⟨rfl, f1, rfl, s1⟩ := hq
    obtain ⟨y1, k1⟩ := mw_at hC1.2.2 (lw_or true)
    have hC2 : moC (h1.set 81 (LA 64 f1)) s (0, u.2) := moC_81 hC1 f1 (lw_or true)
    have k81 : (h1.set 81 (LA 64 f1))[81]? = some (LA 64 f1) := hq_get k1
    refine And.intro ⟨3, _, hC2.1, rfl⟩ ?_
    refine ic_Q (c_mo_label l _ s (0, u.2) f1 fi (isF_eq (rw_of s1 hF) hfi) hC2 k81) (Nat.le_refl _) (Nat.le_refl _) (fun r h3 hq => ?_)
    obtain ⟨rfl, g, st, hH, hb⟩ := hq
    exact And.intro rfl (And.intro rfl (And.intro rfl ⟨hxM_hx (hxM_set (a := 81) hx1 _ (by omega)) hH.1 (by decide), f1, g, moC_hL hC2 hH, hx_at hH.1 (by decide) k81, s1, hH.2.2.1, hb⟩))
  refine hp_run_sound hp_co V_mo_isReady C (fun _ _ _ _ _ _ _ hq => hq) [26] 20 _ _ _ _ _ _ _ ?_
  refine And.intro ⟨3, _, hC.1, rfl⟩ ?_
  refine ic_P (c_mo_isLayer l h s u _ hC.1) (Nat.le_refl _) (Nat.le_refl _) ?_
  rw [lay_de hO hL]
  refine And.intro (fun q => absurd q (by decide)) (fun q => ?_)
  refine And.intro (Or.inl rfl) (Exists.intro _ (And.intro hC.1 (And.intro (Nat.le_of_ble_eq_true rfl) (And.intro rfl (And.intro rfl ?_)))))
  refine Exists.intro _ (And.intro (hq_get hC.1) ?_)
  refine And.intro (fun q => ?_) (fun q => absurd (show (0 : Int32) ≤ 0 by decide) q)
  exact t26 _ (moC_cd hC 0) (hxM_75 h _)
set_option maxRecDepth 20000 in
theorem m_shapes_1 (l : Launch) (s : St) (x : Int32) (hx0 : x < 0 ∨ nI (s_B s + s_m s) ≤ x) : moM l Y_mo_shapes [.int x] s 1 (.int 0) s := by
  rintro h cd ⟨u, rfl, hC⟩
  refine hp_start (T := T_mo_shapes) (by decide) rfl (fun σ => Nat.le_of_ble_eq_true rfl) (fun G C => ?_)
  refine hp_run_sound hp_co V_mo_shapes C (fun _ _ _ _ _ _ _ hq => hq) [] 10 _ _ _ _ _ _ _ ?_
  refine And.intro ⟨3, _, hC.1, rfl⟩ ?_
  refine ic_P (c_mo_isReady_no l h s u x hx0 hC) (Nat.le_refl _) (Nat.le_refl _) ?_
  refine And.intro (fun _ => ?_) (fun q => absurd rfl q)
  exact And.intro rfl (And.intro rfl (And.intro rfl ⟨hxM_75 h _, _, rfl, moC_cd hC 1⟩))
set_option maxRecDepth 20000 in
theorem m_shapes_0 (l : Launch) (s : St) (L : Nat) (hO : stOK s) (hL : L < s_B s + s_m s) (F : Nat → Int64) (hF : shw s L F) (fi : Nat → Bool) (hfi : isF F 0 fi) : moM l Y_mo_shapes [.int (nI L)] s 0 (.int (nI (cn fi 4096))) s := by
  rintro h cd ⟨u, rfl, hC⟩
  refine hp_start (T := T_mo_shapes) (by decide) rfl (fun σ => Nat.le_of_ble_eq_true rfl) (fun G C => ?_)
  refine hp_run_sound hp_co V_mo_shapes C (fun _ _ _ _ _ _ _ hq => hq) [] 10 _ _ _ _ _ _ _ ?_
  refine And.intro ⟨3, _, hC.1, rfl⟩ ?_
  refine ic_Q (c_mo_isReady l h s u L hO hL F hF fi hfi hC) (Nat.le_refl _) (Nat.le_refl _) (fun r h2 hq => ?_)
  obtain ⟨rfl, hx2, f, g, hR⟩ := hq
  refine And.intro (fun q => absurd q (by decide)) (fun _ => ?_)
  refine Exists.intro _ (And.intro hR.1.1 ?_)
  exact And.intro rfl (And.intro rfl (And.intro rfl ⟨hx2, _, rfl, hR.1⟩))
set_option maxRecDepth 20000 in
theorem c_mo_isOf (l : Launch) (h : hp_H) (s : St) (u : moT) (t : Nat) (x y : Int32) (g : Nat → Int32) (R : Nat → Int64) (hp : h[75]? = some (mo75 s u)) (hg : h[84]? = some (IA 4096 g)) (hR : ∀ y x, y < 64 → x < 64 → (g (64 * y + x) = nI t ↔ bb (R y) x = true)) : hp_M l Y_mo_isOf [.ref 75, .int (nI t), .int x, .int y] h true 0 0 (hq_P (.inl (some (.int (zI (on1 R x y))))) h) := by
  refine hp_start (T := T_mo_isOf) (by decide) rfl (fun σ => Nat.le_of_ble_eq_true rfl) (fun G C => ?_)
  refine hp_run_sound hp_co V_mo_isOf C (fun _ _ _ _ _ _ _ hq => hq) [] 26 _ _ _ _ _ _ _ ?_
  refine And.intro (fun q => ?_) (fun q1 => And.intro (fun q => ?_) (fun q2 => And.intro (fun q => ?_) (fun q3 => And.intro (fun q => ?_) (fun q4 => ?_))))
  · rw [on1_no (Or.inl q)]
    exact And.intro rfl (And.intro rfl (And.intro rfl rfl))
  · rw [on1_no (Or.inr (Or.inl q))]
    exact And.intro rfl (And.intro rfl (And.intro rfl rfl))
  · rw [on1_no (Or.inr (Or.inr (Or.inl q)))]
    exact And.intro rfl (And.intro rfl (And.intro rfl rfl))
  · rw [on1_no (Or.inr (Or.inr (Or.inr q)))]
    exact And.intro rfl (And.intro rfl (And.intro rfl rfl))
  · refine Exists.intro _ (And.intro hp ?_)
    obtain ⟨a, ha, rfl⟩ : ∃ a : Nat, a < 64 ∧ x = nI a := ((pk_ix x (n := 64) (by decide)).resolve_left q1).resolve_left q2
    obtain ⟨b, hb, rfl⟩ : ∃ a : Nat, a < 64 ∧ y = nI a := ((pk_ix y (n := 64) (by decide)).resolve_left q3).resolve_left q4
    have e : hp_c 64 * nI b + nI a = nI (64 * b + a) := by
      rw [← nI_add, ← pk_mul]
      rfl
    refine Exists.intro .int (Exists.intro 4096 (Exists.intro _ (And.intro (Or.inl rfl) (And.intro hg (And.intro (show vp_in (hp_c 64 * nI b + nI a) 4096 from by rw [e]; exact in_nI (by omega) (by decide)) ?_)))))
    rw [e, nI_clamp (show 64 * b + a < 2 ^ 31 by omega), on1_in R ha hb]
    refine And.intro (fun q => ?_) (fun q => ?_)
    · have : bb (R b) a = false := by
        cases hbb : bb (R b) a with
        | false => rfl
        | true => exact absurd ((hR b a hb ha).mpr hbb) q
      rw [this]
      exact And.intro rfl (And.intro rfl (And.intro rfl rfl))
    · rw [(hR b a hb ha).mp q]
      exact And.intro rfl (And.intro rfl (And.intro rfl rfl))
theorem on1_LB (f : Nat → Int64) {x y : Nat} (hx2 : x < 2 ^ 31) (hy : y < 2 ^ 31) : on1 f (nI x - 1) (nI y - 1) = (decide (1 ≤ x) && bb (rwB f y) (x - 1)) := by
  rcases Nat.eq_zero_or_pos x with e | e
  · rw [e]
    exact on1_no (Or.inl m1_neg)
  · rw [decide_eq_true (show 1 ≤ x from e), show nI x - 1 = nI (x - 1) from pk_sub (b := 1) e]
    exact on1_B f (by omega) hy
def crn (a b c d : Bool) : Bool := ((b ^^ a) || (d ^^ c)) && ((b ^^ d) || (a ^^ c))
theorem cnr_crn (R : Nat → Int64) {y x : Nat} (hx2 : x ≤ 64) : cnr R y x = crn (decide (1 ≤ x) && bb (rwB R y) (x - 1)) (bb (rwB R y) x) (decide (1 ≤ x) && bb (rwN R y) (x - 1)) (bb (rwN R y) x) := by
  unfold cnr crn
  by_cases h : x < 64
  · rw [if_pos h]
    unfold xcc
    rw [bb_and, bb_or, bb_or, bb_xor, bb_xor, bb_shl (by decide) _ h, bb_shl (by decide) _ h, bb_shl (by decide) _ h, bb_xor, bb_xor]
    cases decide (1 ≤ x) <;> cases bb (rwB R y) x <;> cases bb (rwN R y) x <;> cases bb (rwB R y) (x - 1) <;> cases bb (rwN R y) (x - 1) <;> rfl
  · have e : x = 64 := by omega
    subst e
    rw [if_neg (by decide), bb_xor, bb_big (x := rwB R y) (Nat.le_refl 64), bb_big (x := rwN R y) (Nat.le_refl 64)]
    show (bb (rwB R y) 63 ^^ bb (rwN R y) 63) = ((false ^^ (true && bb (rwB R y) 63) || false ^^ (true && bb (rwN R y) 63)) && (false ^^ false || (true && bb (rwB R y) 63) ^^ (true && bb (rwN R y) 63)))
    cases bb (rwB R y) 63 <;> cases bb (rwN R y) 63 <;> rfl
set_option maxRecDepth 20000 in
theorem c_mo_isCorner (l : Launch) (h : hp_H) (s : St) (u : moT) (t x y : Nat) (hx2 : x ≤ 64) (hy : y ≤ 64) (g : Nat → Int32) (R : Nat → Int64) (hp : h[75]? = some (mo75 s u)) (hg : h[84]? = some (IA 4096 g)) (hR : ∀ y x, y < 64 → x < 64 → (g (64 * y + x) = nI t ↔ bb (R y) x = true)) : hp_M l Y_mo_isCorner [.ref 75, .int (nI t), .int (nI x), .int (nI y)] h true 0 0 (hq_P (.inl (some (.int (zI (cnr R y x))))) h) := by
  have M1 := c_mo_isOf l h s u t (nI x - 1) (nI y - 1) g R hp hg hR
  have M2 := c_mo_isOf l h s u t (nI x) (nI y - 1) g R hp hg hR
  have M3 := c_mo_isOf l h s u t (nI x - 1) (nI y) g R hp hg hR
  have M4 := c_mo_isOf l h s u t (nI x) (nI y) g R hp hg hR
  rw [on1_LB R (by omega) (by omega)] at M1
  rw [on1_B R (by omega) (by omega)] at M2
  rw [on1_L R (by omega) (by omega)] at M3
  rw [on1_N R (by omega) (by omega)] at M4
  rw [cnr_crn R hx2]
  generalize (decide (1 ≤ x) && bb (rwB R y) (x - 1)) = a at M1 ⊢
  generalize bb (rwB R y) x = b at M2 ⊢
  generalize (decide (1 ≤ x) && bb (rwN R y) (x - 1)) = c at M3 ⊢
  generalize bb (rwN R y) x = d at M4 ⊢
  refine hp_start (T := T_mo_isCorner) (by decide) rfl (fun σ => Nat.le_of_ble_eq_true rfl) (fun G C => ?_)
  have t87 : hp_W G 87 [(0, .ref 75), (1, .int (nI t)), (2, .int (nI x)), (3, .int (nI y)), (4, .int (zI a)), (5, .int (zI b)), (6, .int (zI c)), (7, .int (zI d))] [.int (zI a + zI b + zI c + zI d)] h true 0 0 := by
    refine hp_run_sound hp_co V_mo_isCorner C (fun _ _ _ _ _ _ _ hq => hq) [] 20 _ _ _ _ _ _ _ ?_
    cases a <;> cases b <;> cases c <;> cases d <;> first
      | exact And.intro (fun _ => And.intro rfl (And.intro rfl (And.intro rfl rfl))) (fun q => absurd (by decide) q)
      | exact And.intro (fun q => absurd q (by decide)) (fun _ => And.intro (fun _ => And.intro rfl (And.intro rfl (And.intro rfl rfl))) (fun q => absurd (by decide) q))
      | exact And.intro (fun q => absurd q (by decide)) (fun _ => And.intro (fun q => absurd q (by decide)) (fun _ => And.intro (fun _ => And.intro rfl (And.intro rfl (And.intro rfl rfl))) (fun q => absurd q (by decide))))
      | exact And.intro (fun q => absurd q (by decide)) (fun _ => And.intro (fun q => absurd q (by decide)) (fun _ => And.intro (fun q => absurd (by decide) q) (fun _ => And.intro (fun q => absurd (by decide) q) (fun _ => And.intro rfl (And.intro rfl (And.intro rfl rfl))))))
      | exact And.intro (fun q => absurd q (by decide)) (fun _ => And.intro (fun q => absurd q (by decide)) (fun _ => And.intro (fun q => absurd (by decide) q) (fun _ => And.intro (fun _ => And.intro rfl (And.intro rfl (And.intro rfl rfl))) (fun q => absurd q (by decide)))))
  have t75 : hp_W G 75 [(0, .ref 75), (1, .int (nI t)), (2, .int (nI x)), (3, .int (nI y)), (4, .int (zI a)), (5, .int (zI b)), (6, .int (zI c)), (7, .int (zI d))] [.int (zI c), .int (zI a + zI b)] h true 0 0 := by
    refine hp_run_sound hp_co V_mo_isCorner C (fun _ _ _ _ _ _ _ hq => hq) [87] 8 _ _ _ _ _ _ _ ?_
    cases d
    · exact And.intro (fun _ => t87) (fun q => absurd rfl q)
    · exact And.intro (fun q => absurd q (by decide)) (fun _ => t87)
  have t64 : hp_W G 64 [(0, .ref 75), (1, .int (nI t)), (2, .int (nI x)), (3, .int (nI y)), (4, .int (zI a)), (5, .int (zI b)), (6, .int (zI c)), (7, .int (zI d))] [.int (zI b), .int (zI a)] h true 0 0 := by
    refine hp_run_sound hp_co V_mo_isCorner C (fun _ _ _ _ _ _ _ hq => hq) [75] 8 _ _ _ _ _ _ _ ?_
    cases c
    · exact And.intro (fun _ => t75) (fun q => absurd rfl q)
    · exact And.intro (fun q => absurd q (by decide)) (fun _ => t75)
  have t54 : hp_W G 54 [(0, .ref 75), (1, .int (nI t)), (2, .int (nI x)), (3, .int (nI y)), (4, .int (zI a)), (5, .int (zI b)), (6, .int (zI c)), (7, .int (zI d))] [.int (zI a)] h true 0 0 := by
    refine hp_run_sound hp_co V_mo_isCorner C (fun _ _ _ _ _ _ _ hq => hq) [64] 8 _ _ _ _ _ _ _ ?_
    cases b
    · exact And.intro (fun _ => t64) (fun q => absurd rfl q)
    · exact And.intro (fun q => absurd q (by decide)) (fun _ => t64)
  refine hp_run_sound hp_co V_mo_isCorner C (fun _ _ _ _ _ _ _ hq => hq) [54] 40 _ _ _ _ _ _ _ ?_
  refine And.intro ⟨3, _, hp, rfl⟩ ?_
  refine ic_P M1 (Nat.le_refl _) (Nat.le_refl _) ?_
  refine And.intro ⟨3, _, hp, rfl⟩ ?_
  refine ic_P M2 (Nat.le_refl _) (Nat.le_refl _) ?_
  refine And.intro ⟨3, _, hp, rfl⟩ ?_
  refine ic_P M3 (Nat.le_refl _) (Nat.le_refl _) ?_
  refine And.intro ⟨3, _, hp, rfl⟩ ?_
  refine ic_P M4 (Nat.le_refl _) (Nat.le_refl _) ?_
  cases a
  · exact And.intro (fun _ => t54) (fun q => absurd rfl q)
  · exact And.intro (fun q => absurd q (by decide)) (fun _ => t54)
theorem shR_lb {f : Nat → Int64} {fi : Nat → Bool} {g : Nat → Int32} (hF : isF f 0 fi) (hg : lbS f fi g) {a : Nat} (ha : a < 4096) (h1 : fi a = true) {R : Nat → Int64} (hR : shR f a R) : ∀ y x, y < 64 → x < 64 → (g (64 * y + x) = nI (cn fi a) ↔ bb (R y) x = true) := fun y x hy hx2 => by
  have hb := cn_4096 fi
  have ha4 : cn fi a < cn fi 4096 := cn_in ha h1
  rw [hR y x hy hx2]
  rcases hg (64 * y + x) (by omega) with ⟨c1, c2⟩ | ⟨c1, t, t0, c2, c3⟩
  · rw [c2, c1]
    exact ⟨fun e => absurd e.symm (m1_ne (by omega)), fun e => absurd e.1 (by decide)⟩
  · rw [c3, c1]
    constructor
    · intro e
      have := (nI_eq (by omega) (by omega)).mp e
      subst this
      exact ⟨rfl, (ofT_con ha h1 rfl).mp c2⟩
    · intro e
      rw [ofT_uq hF c2 ((ofT_con ha h1 rfl).mpr e.2)]
theorem shR_F {f F : Nat → Int64} (h : rwN f = rwN F) {a : Nat} {R : Nat → Int64} (hR : shR F a R) : shR f a R := fun y x hy hx2 => by rw [hR y x hy hx2, qs_eq h (by omega), con_eq h]
theorem sub_m1 (k : Int32) (c : Nat) : k - nI c + -1 = k - nI (c + 1) := by
  rw [← nI_1 c, Int32.sub_eq_add_neg, Int32.sub_eq_add_neg, Int32.neg_add, Int32.add_assoc, Int32.sub_eq_add_neg]
theorem sub_0 (k : Int32) (c : Nat) : k - nI c = 0 ↔ k = nI c := by
  constructor
  · intro h
    have := congrArg (fun z => z + nI c) h
    simpa [Int32.sub_add_cancel] using this
  · intro h
    rw [h, Int32.sub_self]
