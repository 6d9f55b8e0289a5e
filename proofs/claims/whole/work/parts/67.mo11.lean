/-! the reference: in, isTouched, relate -/
set_option maxRecDepth 20000 in
theorem m_in_1 (l : Launch) (s : St) (x : Int32) (a b : Int64) (hx0 : x < 0 ∨ nI (s_B s + s_m s) ≤ x) : moM l Y_mo_in [.int x, .long a, .long b] s 1 (.int 0) s := by
  rintro h cd ⟨u, rfl, hC⟩
  refine hp_start (T := T_mo_in) (by decide) rfl (fun σ => Nat.le_of_ble_eq_true rfl) (fun G C => ?_)
  refine hp_run_sound hp_co V_mo_in C (fun _ _ _ _ _ _ _ hq => hq) [56] 20 _ _ _ _ _ _ _ ?_
  refine And.intro ⟨3, _, hC.1, rfl⟩ ?_
  refine ic_P (c_mo_isLayer l h s u x hC.1) (Nat.le_refl _) (Nat.le_refl _) ?_
  rw [lay_no hx0]
  refine And.intro (fun _ => ?_) (fun q => absurd rfl q)
  refine And.intro (Or.inl rfl) (Exists.intro _ (And.intro hC.1 (And.intro (Nat.le_of_ble_eq_true rfl) (And.intro rfl (And.intro rfl ?_)))))
  refine Exists.intro _ (And.intro (hq_get hC.1) ?_)
  refine And.intro (fun _ => ?_) (fun q => absurd (by decide) q)
  exact And.intro rfl (And.intro rfl (And.intro rfl ⟨hxM_75 h _, _, rfl, moC_cd hC 1⟩))
/-- in with a good layer, up to its four comparisons -/
theorem m_in_24 (l : Launch) (s : St) (u : moT) (L : Nat) (a b : Int64) (hO : stOK s) (hL : L < s_B s + s_m s) {h : hp_H} (hC : moC h s u) {Q : hp_R → hp_H → Prop} {G : hp_G} (C : hp_ctx T_mo_in Y_mo_in l false 0 0 Q G) (hi : ∀ h1, moC h1 s (0, u.2) → hxM h h1 → hp_W G 24 [(0, .ref 75), (1, .int (nI L)), (2, .long a), (4, .long b)] [] h1 false 0 0) : hp_W G 0 [(0, .ref 75), (1, .int (nI L)), (2, .long a), (4, .long b)] [] h true 0 0 := by
  refine hp_run_sound hp_co V_mo_in C (fun _ _ _ _ _ _ _ hq => hq) [24, 54] 20 _ _ _ _ _ _ _ ?_
  refine And.intro ⟨3, _, hC.1, rfl⟩ ?_
  refine ic_P (c_mo_isLayer l h s u _ hC.1) (Nat.le_refl _) (Nat.le_refl _) ?_
  rw [lay_de hO hL]
  refine And.intro (fun q => absurd q (by decide)) (fun q => ?_)
  refine And.intro (Or.inl rfl) (Exists.intro _ (And.intro hC.1 (And.intro (Nat.le_of_ble_eq_true rfl) (And.intro rfl (And.intro rfl ?_)))))
  refine Exists.intro _ (And.intro (hq_get hC.1) ?_)
  refine And.intro (fun q => absurd (show (0 : Int32) < 0 from q) (by decide)) (fun _ => ?_)
  exact hi _ (moC_cd hC 0) (hxM_75 h _)
set_option maxRecDepth 20000 in
theorem m_in_o (l : Launch) (s : St) (L : Nat) (a b : Int64) (hO : stOK s) (hL : L < s_B s + s_m s) (hab : a < 0 ∨ 64 ≤ a ∨ b < 0 ∨ 64 ≤ b) : moM l Y_mo_in [.int (nI L), .long a, .long b] s 0 (.int 0) s := by
  rintro h cd ⟨u, rfl, hC⟩
  refine hp_start (T := T_mo_in) (by decide) rfl (fun σ => Nat.le_of_ble_eq_true rfl) (fun G C => ?_)
  refine m_in_24 l s u L a b hO hL hC C (fun h1 hC1 hx1 => ?_)
  have t54 : hp_W G 54 [(0, .ref 75), (1, .int (nI L)), (2, .long a), (4, .long b)] [] h1 false 0 0 := by
    refine hp_run_sound hp_co V_mo_in C (fun _ _ _ _ _ _ _ hq => hq) [] 4 _ _ _ _ _ _ _ ?_
    exact And.intro rfl (And.intro rfl (And.intro rfl ⟨hx1, _, rfl, hC1⟩))
  refine hp_run_sound hp_co V_mo_in C (fun _ _ _ _ _ _ _ hq => hq) [54, 56] 20 _ _ _ _ _ _ _ ?_
  refine And.intro (fun _ => t54) (fun q1 => And.intro (fun _ => t54) (fun q2 => And.intro (fun _ => t54) (fun q3 => And.intro (fun q4 => ?_) (fun _ => t54))))
  exfalso
  rcases hab with e | e | e | e
  · exact q1 ((lg_cmp_lt _ _).mpr e)
  · exact q2 ((lg_cmp_ge _ _).mpr e)
  · exact q3 ((lg_cmp_lt _ _).mpr e)
  · exact absurd ((lg_cmp_lt _ _).mp q4) (Int64.not_lt.mpr e)
set_option maxRecDepth 20000 in
theorem m_in_0 (l : Launch) (s : St) (L x y : Nat) (hO : stOK s) (hL : L < s_B s + s_m s) (hx2 : x < 64) (hy2 : y < 64) : moM l Y_mo_in [.int (nI L), .long (lN x), .long (lN y)] s 0 (.int (zI (inL s L x y))) s := by
  rintro h cd ⟨u, rfl, hC⟩
  refine hp_start (T := T_mo_in) (by decide) rfl (fun σ => Nat.le_of_ble_eq_true rfl) (fun G C => ?_)
  refine m_in_24 l s u L _ _ hO hL hC C (fun h1 hC1 hx1 => ?_)
  refine hp_run_sound hp_co V_mo_in C (fun _ _ _ _ _ _ _ hq => hq) [54] 40 _ _ _ _ _ _ _ ?_
  refine And.intro (fun q => absurd ((lg_cmp_lt _ _).mp q) (fun c => absurd ((pk_lLT (b := 0) (by omega) (by decide)).mp c) (by omega))) (fun _ => And.intro (fun q => absurd ((lg_cmp_ge _ _).mp q) (fun c => absurd ((pk_lLE (a := 64) (by decide) (by omega)).mp c) (by omega))) (fun _ => And.intro (fun q => absurd ((lg_cmp_lt _ _).mp q) (fun c => absurd ((pk_lLT (b := 0) (by omega) (by decide)).mp c) (by omega))) (fun _ => And.intro (fun q => ?_) (fun q => absurd ((lg_cmp_lt _ _).mpr ((pk_lLT (b := 64) (by omega) (by decide)).mpr hy2)) q))))
  refine And.intro ⟨3, _, hC1.1, rfl⟩ ?_
  refine ic_Q (c_mo_load l h1 s (0, u.2) L true hO hL hC1) (Nat.le_refl _) (Nat.le_refl _) (fun r h2 hq => ?_)
  obtain ⟨rfl, f1, rfl, s1⟩ := hq
  obtain ⟨y1, k1⟩ := mw_at hC1.2.2 (lw_or true)
  have hC2 : moC (h1.set 81 (LA 64 f1)) s (0, u.2) := moC_81 hC1 f1 (lw_or true)
  have k81 : (h1.set 81 (LA 64 f1))[81]? = some (LA 64 f1) := hq_get k1
  have hM := c_mo_isOne l _ s (0, u.2) (nI x) (nI y) f1 hC2.1 k81
  rw [on1_in f1 hx2 hy2, s1 y x hy2 hx2, ← lN_j (show x < 2 ^ 64 by omega), ← lN_j (show y < 2 ^ 64 by omega)] at hM
  refine And.intro ⟨3, _, hC2.1, rfl⟩ ?_
  refine ic_P hM (Nat.le_refl _) (Nat.le_refl _) ?_
  exact And.intro rfl (And.intro (by cases inL s L x y <;> rfl) (And.intro rfl ⟨hxM_set (a := 81) hx1 _ (by omega), _, rfl, hC2⟩))
theorem touch_eq (e : Nat → Int64) {x y : Nat} (hx2 : x < 64) (hy2 : y < 64) : rzb true e 1 1 x y = ob (fun i => ob (fun j => rg e x y 1 1 j i) 3) 3 := by
  have h := round_eq false e (dx := 1) (dy := 1) hx2 hy2
  rw [Bool.false_xor] at h
  rw [show rzb true e 1 1 x y = rzb (!false) e 1 1 x y from rfl, h]
  refine bool_ext ?_
  unfold hits
  rw [ob_iff, ob_iff]
  constructor
  · rintro ⟨i, h1, h2⟩
    obtain ⟨j, h3, h4⟩ := (ob_iff _ _).mp h2
    exact ⟨j, h3, (ob_iff _ _).mpr ⟨i, h1, h4⟩⟩
  · rintro ⟨i, h1, h2⟩
    obtain ⟨j, h3, h4⟩ := (ob_iff _ _).mp h2
    exact ⟨j, h3, (ob_iff _ _).mpr ⟨i, h1, h4⟩⟩
theorem ad_sub (a b c : Nat) : nI a + (nI b - nI c) = nI (a + b) - nI c := by
  rw [← nI_add, Int32.sub_eq_add_neg, Int32.sub_eq_add_neg, Int32.add_assoc]
set_option maxRecDepth 20000 in
theorem c_mo_isTouched (l : Launch) (h : hp_H) (s : St) (u : moT) (x y : Nat) (hx2 : x < 64) (hy2 : y < 64) (e : Nat → Int64) (hp : h[75]? = some (mo75 s u)) (he : h[82]? = some (LA 64 e)) : hp_M l Y_mo_isTouched [.ref 75, .int (nI x), .int (nI y)] h true 0 0 (hq_P (.inl (some (.int (zI (rzb true e 1 1 x y))))) h) := by
  rw [touch_eq e hx2 hy2]
  refine hp_start (T := T_mo_isTouched) (by decide) rfl (fun σ => Nat.le_of_ble_eq_true rfl) (fun G C => ?_)
  have zr : ∀ b : Bool, narrow .boolean (.int (zI b)) = .int (zI b) := fun b => by cases b <;> rfl
  have outer : ∀ (m i : Nat), i + m = 3 → hp_W G 5 [(0, .ref 75), (1, .int (nI x)), (2, .int (nI y)), (3, .int (zI (ob (fun i => ob (fun j => rg e x y 1 1 j i) 3) i))), (4, .int (nI i - nI 1))] [] h true 0 0 := by
    intro m
    induction m with
    | zero =>
      intro i hi
      have e1 : i = 3 := by omega
      subst e1
      refine hp_run_sound hp_co V_mo_isTouched C (fun _ _ _ _ _ _ _ hq => hq) [5] 8 _ _ _ _ _ _ _ ?_
      refine And.intro (fun c => ?_) (fun c => absurd (show nI 1 < nI 3 - nI 1 by decide) c)
      exact And.intro rfl (And.intro (zr _) (And.intro rfl rfl))
    | succ m ih =>
      intro i hi
      have hS : ob (fun i => ob (fun j => rg e x y 1 1 j i) 3) (i + 1) = (ob (fun i => ob (fun j => rg e x y 1 1 j i) 3) i || ob (fun j => rg e x y 1 1 j i) 3) := rfl
      have nx := ih (i + 1) (by omega)
      rw [hS, ← sub_1] at nx
      generalize ob (fun i => ob (fun j => rg e x y 1 1 j i) 3) i = S at nx ⊢
      have inner : ∀ (m' j : Nat), j + m' = 3 → hp_W G 14 [(0, .ref 75), (1, .int (nI x)), (2, .int (nI y)), (3, .int (zI (S || ob (fun j => rg e x y 1 1 j i) j))), (4, .int (nI i - nI 1)), (5, .int (nI j - nI 1))] [] h true 0 0 := by
        intro m'
        induction m' with
        | zero =>
          intro j hj
          have e1 : j = 3 := by omega
          subst e1
          refine hp_run_sound hp_co V_mo_isTouched C (fun _ _ _ _ _ _ _ hq => hq) [5] 8 _ _ _ _ _ _ _ ?_
          refine And.intro (fun c => ?_) (fun c => absurd (show nI 1 < nI 3 - nI 1 by decide) c)
          exact hp_W_pick [0, 1, 2, 3, 4] nx
        | succ m' im =>
          intro j hj
          have nj := im (j + 1) (by omega)
          rw [show ob (fun j => rg e x y 1 1 j i) (j + 1) = (ob (fun j => rg e x y 1 1 j i) j || rg e x y 1 1 j i) from rfl, ← Bool.or_assoc, ← sub_1] at nj
          generalize (S || ob (fun j => rg e x y 1 1 j i) j) = S2 at nj ⊢
          refine hp_run_sound hp_co V_mo_isTouched C (fun _ _ _ _ _ _ _ hq => hq) [14] 24 _ _ _ _ _ _ _ ?_
          refine And.intro (fun c => absurd c (show ¬ nI 1 < nI j - nI 1 by rw [cmpZ (by omega) (by omega) (by omega)]; omega)) (fun _ => ?_)
          cases S2 with
          | true => exact And.intro (fun _ => nj) (fun q => absurd q (by decide))
          | false =>
            refine And.intro (fun q => absurd rfl q) (fun _ => ?_)
            refine And.intro ⟨3, _, hp, rfl⟩ ?_
            refine ic_P (c_mo_isTwo l h s u _ _ e hp he) (Nat.le_refl _) (Nat.le_refl _) ?_
            rw [ad_sub, ad_sub, on1_Z e (by omega) (by omega) (by omega) (by omega)]
            cases hb : rg e x y 1 1 j i with
            | false =>
              rw [hb] at nj
              exact And.intro (fun _ => nj) (fun q => absurd rfl q)
            | true =>
              rw [hb] at nj
              exact And.intro (fun q => absurd q (by decide)) (fun _ => nj)
      have h0 := inner 3 0 (by omega)
      rw [show ob (fun j => rg e x y 1 1 j i) 0 = false from rfl, Bool.or_false] at h0
      refine hp_run_sound hp_co V_mo_isTouched C (fun _ _ _ _ _ _ _ hq => hq) [14] 8 _ _ _ _ _ _ _ ?_
      refine And.intro (fun c => absurd c (show ¬ nI 1 < nI i - nI 1 by rw [cmpZ (by omega) (by omega) (by omega)]; omega)) (fun _ => ?_)
      exact h0
  refine hp_run_sound hp_co V_mo_isTouched C (fun _ _ _ _ _ _ _ hq => hq) [5] 8 _ _ _ _ _ _ _ ?_
  exact outer 3 0 (by omega)
