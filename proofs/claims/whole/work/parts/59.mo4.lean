/-! the reference: isClosed, isIn, load -/
theorem xr_head (e : Nat → Bool) : ∀ n, xr e (n + 1) = (xr (fun j => e (j + 1)) n ^^ e 0)
  | 0 => by
    show (xr e 0 ^^ e 0) = (xr _ 0 ^^ e 0)
    rfl
  | n + 1 => by
    show (xr e (n + 1) ^^ e (n + 1)) = ((xr (fun j => e (j + 1)) n ^^ e (n + 1)) ^^ e 0)
    rw [xr_head e n]
    cases xr (fun j => e (j + 1)) n <;> cases e (n + 1) <;> cases e 0 <;> rfl
theorem xr_turn (e : Nat → Bool) (n : Nat) : xr (fun j => e ((j + 1) % n)) n = xr e n := by
  cases n with
  | zero => rfl
  | succ n =>
    rw [xr_head e n]
    show (xr (fun j => e ((j + 1) % (n + 1))) n ^^ e ((n + 1) % (n + 1))) = _
    rw [Nat.mod_self, xr_congr n (fun j hj => show e ((j + 1) % (n + 1)) = e (j + 1) by rw [Nat.mod_eq_of_lt (by omega)])]
/-- the reference's edge j of n meets the ray from (x, y) -/
def met (n : Nat) (X Y : Nat → Nat) (x y j : Nat) : Bool := decide (X j = X ((j + 1) % n)) && (decide (x < X j) && (decide (min (Y j) (Y ((j + 1) % n)) ≤ y) && decide (y < max (Y j) (Y ((j + 1) % n)))))
theorem met_pin (n : Nat) (X Y : Nat → Nat) (x y : Nat) : xr (met n X Y x y) n = pin' n X Y x (y + 1) := by
  unfold pin'
  refine Eq.trans ?_ (xr_turn _ n)
  refine xr_congr n (fun j hj => ?_)
  unfold met std
  have hb : bef n ((j + 1) % n) = j := by
    unfold bef
    rcases Nat.lt_or_ge (j + 1) n with q | q
    · rw [Nat.mod_eq_of_lt q, if_neg (by omega)]
      omega
    · rw [show j + 1 = n by omega, Nat.mod_self, if_pos rfl]
      omega
  rw [hb]
  by_cases h1 : X j = X ((j + 1) % n)
  · rw [decide_eq_true h1, decide_eq_true h1.symm, ← h1, Bool.true_and, Bool.true_and]
    by_cases h2 : x < X j
    · rw [decide_eq_true h2, Bool.true_and, Bool.true_and]
      by_cases h3 : Y j < y + 1 <;> by_cases h4 : Y ((j + 1) % n) < y + 1
      · rw [decide_eq_true h3, decide_eq_true h4, decide_eq_false (show ¬ y < max (Y j) (Y ((j + 1) % n)) by omega), Bool.and_false]
        rfl
      · rw [decide_eq_true h3, decide_eq_false h4, decide_eq_true (show y < max (Y j) (Y ((j + 1) % n)) by omega), decide_eq_true (show min (Y j) (Y ((j + 1) % n)) ≤ y by omega)]
        rfl
      · rw [decide_eq_false h3, decide_eq_true h4, decide_eq_true (show y < max (Y j) (Y ((j + 1) % n)) by omega), decide_eq_true (show min (Y j) (Y ((j + 1) % n)) ≤ y by omega)]
        rfl
      · rw [decide_eq_false h3, decide_eq_false h4, decide_eq_false (show ¬ min (Y j) (Y ((j + 1) % n)) ≤ y by omega)]
        rfl
    · rw [decide_eq_false h2]
      rfl
  · rw [decide_eq_false h1, decide_eq_false (p := X ((j + 1) % n) = X j) (fun q => h1 q.symm)]
    rfl
theorem zI_t {b : Bool} (h : ¬ zI b = 0) : b = true := by
  cases b with
  | true => rfl
  | false => exact absurd rfl h
set_option maxRecDepth 20000 in
theorem c_mo_isClosed (l : Launch) (h : hp_H) (s : St) (u : moT) (p : Nat) (hO : stOK s) (hp16 : p < 16) (hC : moC h s u) : hp_M l Y_mo_isClosed [.ref 75, .int (nI p)] h true 0 0 (hq_P (.inl (some (.int (zI (!opn (s_k s) (s_X s) (s_Y s) p))))) h) := by
  have bk := hO.2.2.2.2.2.2.2.1 p hp16
  have bX : ∀ j, s_X s p j ≤ 64 := fun j => hO.2.2.2.2.2.2.2.2.1 p j hp16
  have bY : ∀ j, s_Y s p j ≤ 64 := fun j => hO.2.2.2.2.2.2.2.2.2 p j hp16
  refine hp_start (T := T_mo_isClosed) (by decide) rfl (fun σ => Nat.le_of_ble_eq_true rfl) (fun G C => ?_)
  have e16 : hp_c 16 * nI p = nI (16 * p) := by rw [← pk_mul]; rfl
  have fin : ∀ bx bz, bx = decide (s_X s p 0 = s_X s p (s_k s p - 1)) → bz = decide (s_Y s p 0 = s_Y s p (s_k s p - 1)) → ¬ s_k s p < 4 → ∀ lv, hp_W G 66 lv [.int (zI bz), .int (zI bx)] h true 0 0 := by
    intro bx bz e1 e2 h0 lv
    refine hp_run_sound hp_co V_mo_isClosed C (fun _ _ _ _ _ _ _ hq => hq) [] 10 _ _ _ _ _ _ _ ?_
    have e3 : (!opn (s_k s) (s_X s) (s_Y s) p) = ((!bx) ^^ (!bz)) := by
      unfold opn dif
      rw [decide_eq_false h0, ← e1, ← e2]
      cases bx <;> cases bz <;> rfl
    rw [e3]
    cases bx <;> cases bz
    · exact And.intro (fun q => And.intro rfl (And.intro rfl (And.intro rfl rfl))) (fun q => absurd rfl q)
    · exact And.intro (fun q => absurd q (by decide)) (fun q => And.intro rfl (And.intro rfl (And.intro rfl rfl)))
    · exact And.intro (fun q => absurd q (by decide)) (fun q => And.intro rfl (And.intro rfl (And.intro rfl rfl)))
    · exact And.intro (fun q => And.intro rfl (And.intro rfl (And.intro rfl rfl))) (fun q => absurd rfl q)
  have t46 : ∀ bx, bx = decide (s_X s p 0 = s_X s p (s_k s p - 1)) → ¬ s_k s p < 4 → hp_W G 46 [(0, .ref 75), (1, .int (nI p)), (2, .int (nI (16 * p))), (3, .int (nI (16 * p + (s_k s p - 1))))] [.int (zI bx)] h true 0 0 := by
    intro bx e1 h0
    refine hp_run_sound hp_co V_mo_isClosed C (fun _ _ _ _ _ _ _ hq => hq) [66] 20 _ _ _ _ _ _ _ ?_
    refine Exists.intro _ (And.intro hC.1 ?_)
    refine Exists.intro .int (Exists.intro 256 (Exists.intro _ (And.intro (Or.inl rfl) (And.intro hC.2.1.2.2.2.1 (And.intro (in_nI (by omega) (by decide)) ?_)))))
    rw [nI_clamp (show 16 * p < 2 ^ 31 by omega), show caF (s_Y s) (16 * p) = s_Y s p 0 from caF_at (s_Y s) (p := p) (k := 0) (by decide)]
    refine Exists.intro _ (And.intro hC.1 ?_)
    refine Exists.intro .int (Exists.intro 256 (Exists.intro _ (And.intro (Or.inl rfl) (And.intro hC.2.1.2.2.2.1 (And.intro (in_nI (by omega) (by decide)) ?_)))))
    rw [nI_clamp (show 16 * p + (s_k s p - 1) < 2 ^ 31 by omega), caF_at _ (show s_k s p - 1 < 16 by omega)]
    have b0 := bY 0
    have b1 := bY (s_k s p - 1)
    refine And.intro (fun q => ?_) (fun q => ?_)
    · exact fin bx false e1 (decide_eq_false (fun c => q (congrArg nI c))).symm h0 _
    · exact fin bx true e1 (decide_eq_true ((nI_eq (by omega) (by omega)).mp q)).symm h0 _
  have t23 : hp_W G 16 [(0, .ref 75), (1, .int (nI p)), (2, .int (nI (16 * p))), (3, .int (nI (16 * p) + nI (s_k s p) - 1))] [] h true 0 0 := by
    refine hp_run_sound hp_co V_mo_isClosed C (fun _ _ _ _ _ _ _ hq => hq) [46] 30 _ _ _ _ _ _ _ ?_
    refine Exists.intro _ (And.intro hC.1 ?_)
    refine Exists.intro .int (Exists.intro 16 (Exists.intro _ (And.intro (Or.inl rfl) (And.intro hC.2.1.2.1 (And.intro (in_nI hp16 (by decide)) ?_)))))
    rw [nI_clamp (show p < 2 ^ 31 by omega)]
    refine And.intro (fun q => ?_) (fun q => ?_)
    · have h0 : s_k s p < 4 := by
        have := (nI_leI (b := 3) (by omega) (by decide)).mp q
        omega
      have e3 : opn (s_k s) (s_X s) (s_Y s) p = true := by
        unfold opn
        rw [decide_eq_true h0]
        rfl
      rw [e3]
      exact And.intro rfl (And.intro rfl (And.intro rfl rfl))
    · have h0 : ¬ s_k s p < 4 := fun c => q ((nI_leI (b := 3) (by omega) (by decide)).mpr (by omega))
      have e4 : nI (16 * p) + nI (s_k s p) - 1 = nI (16 * p + (s_k s p - 1)) := by
        rw [nI_add, show nI (16 * p + s_k s p) - 1 = nI (16 * p + s_k s p - 1) from pk_sub (b := 1) (by omega)]
        exact congrArg nI (by omega)
      refine Exists.intro _ (And.intro hC.1 ?_)
      refine Exists.intro .int (Exists.intro 256 (Exists.intro _ (And.intro (Or.inl rfl) (And.intro hC.2.1.2.2.1 (And.intro (in_nI (by omega) (by decide)) ?_)))))
      rw [nI_clamp (show 16 * p < 2 ^ 31 by omega), show caF (s_X s) (16 * p) = s_X s p 0 from caF_at (s_X s) (p := p) (k := 0) (by decide), e4]
      refine Exists.intro _ (And.intro hC.1 ?_)
      refine Exists.intro .int (Exists.intro 256 (Exists.intro _ (And.intro (Or.inl rfl) (And.intro hC.2.1.2.2.1 (And.intro (in_nI (by omega) (by decide)) ?_)))))
      rw [nI_clamp (show 16 * p + (s_k s p - 1) < 2 ^ 31 by omega), caF_at _ (show s_k s p - 1 < 16 by omega)]
      have b0 := bX 0
      have b1 := bX (s_k s p - 1)
      refine And.intro (fun q => ?_) (fun q => ?_)
      · exact t46 false (decide_eq_false (fun c => q (congrArg nI c))).symm h0
      · exact t46 true (decide_eq_true ((nI_eq (by omega) (by omega)).mp q)).symm h0
  refine hp_run_sound hp_co V_mo_isClosed C (fun _ _ _ _ _ _ _ hq => hq) [16] 16 _ _ _ _ _ _ _ ?_
  refine Exists.intro _ (And.intro hC.1 ?_)
  rw [e16]
  refine Exists.intro .int (Exists.intro 16 (Exists.intro _ (And.intro (Or.inl rfl) (And.intro hC.2.1.2.1 (And.intro (in_nI hp16 (by decide)) ?_)))))
  rw [nI_clamp (show p < 2 ^ 31 by omega)]
  exact t23
theorem mn_lt (a b : Nat) (h : a < b) : min a b = a ∧ max a b = b := by omega
theorem mn_ge (a b : Nat) (h : ¬ a < b) : min a b = b ∧ max a b = a := by omega
set_option maxRecDepth 20000 in
theorem c_mo_isIn (l : Launch) (h : hp_H) (s : St) (u : moT) (p x y : Nat) (hO : stOK s) (hp16 : p < 16) (hx2 : x < 64) (hy2 : y < 64) (hC : moC h s u) : hp_M l Y_mo_isIn [.ref 75, .int (nI p), .int (nI x), .int (nI y)] h true 0 0 (hq_P (.inl (some (.int (zI (pin' (s_k s p) (s_X s p) (s_Y s p) x (y + 1)))))) h) := by
  have bk := hO.2.2.2.2.2.2.2.1 p hp16
  have bX : ∀ j, s_X s p j ≤ 64 := fun j => hO.2.2.2.2.2.2.2.2.1 p j hp16
  have bY : ∀ j, s_Y s p j ≤ 64 := fun j => hO.2.2.2.2.2.2.2.2.2 p j hp16
  rw [← met_pin]
  generalize hX : s_X s p = X at bX
  generalize hY : s_Y s p = Y at bY
  have aX : ∀ j, j < 16 → caF (s_X s) (16 * p + j) = X j := fun j hj => by rw [caF_at _ hj, hX]
  have aY : ∀ j, j < 16 → caF (s_Y s) (16 * p + j) = Y j := fun j hj => by rw [caF_at _ hj, hY]
  generalize hn : s_k s p = n at bk
  refine hp_start (T := T_mo_isIn) (by decide) rfl (fun σ => Nat.le_of_ble_eq_true rfl) (fun G C => ?_)
  have e16 : hp_c 16 * nI p = nI (16 * p) := by rw [← pk_mul]; rfl
  have key : ∀ (m j : Nat), j + m = n → hp_W G 6 [(0, .ref 75), (1, .int (nI p)), (2, .int (nI x)), (3, .int (nI y)), (4, .int (zI (xr (met n X Y x y) j))), (5, .int (nI j))] [] h true 0 0 := by
    intro m
    induction m with
    | zero =>
      intro j hj
      have e : j = n := by omega
      subst e
      refine hp_run_sound hp_co V_mo_isIn C (fun _ _ _ _ _ _ _ hq => hq) [6] 12 _ _ _ _ _ _ _ ?_
      refine Exists.intro _ (And.intro hC.1 ?_)
      refine Exists.intro .int (Exists.intro 16 (Exists.intro _ (And.intro (Or.inl rfl) (And.intro hC.2.1.2.1 (And.intro (in_nI hp16 (by decide)) ?_)))))
      rw [nI_clamp (show p < 2 ^ 31 by omega), hn]
      refine And.intro (fun c => ?_) (fun c => absurd (nI_le (Nat.le_refl _) (by omega)) c)
      exact And.intro rfl (And.intro (by cases xr (met j X Y x y) j <;> rfl) (And.intro rfl rfl))
    | succ m ih =>
      intro j hj
      have hW := ih (j + 1) (by omega)
      have hjn : (j + 1) % n < 16 := Nat.lt_of_lt_of_le (Nat.mod_lt _ (by omega)) bk
      have b1 := bX j
      have b2 := bX ((j + 1) % n)
      have b3 := bY j
      have b4 := bY ((j + 1) % n)
      -- the end of a round: met is known
      have t161 : ∀ b, b = met n X Y x y j → ∀ v8 v9 : Int32, hp_W G 161 [(0, .ref 75), (1, .int (nI p)), (2, .int (nI x)), (3, .int (nI y)), (4, .int (zI (xr (met n X Y x y) j))), (5, .int (nI j)), (6, .int (nI (16 * p + j))), (7, .int (nI (16 * p + (j + 1) % n))), (8, .int v8), (9, .int v9)] [.int (zI b)] h true 0 0 := by
        intro b hb v8 v9
        have e5 : xr (met n X Y x y) (j + 1) = (xr (met n X Y x y) j ^^ b) := by rw [hb]; rfl
        rw [e5, ← nI_1 j] at hW
        refine hp_run_sound hp_co V_mo_isIn C (fun _ _ _ _ _ _ _ hq => hq) [6] 12 _ _ _ _ _ _ _ ?_
        generalize xr (met n X Y x y) j = o at hW
        cases o <;> cases b
        · refine And.intro (fun _ => ?_) (fun q => absurd rfl q)
          exact hp_W_pick [0, 1, 2, 3, 4, 5] hW
        · refine And.intro (fun q => absurd q (by decide)) (fun _ => ?_)
          exact hp_W_pick [0, 1, 2, 3, 4, 5] hW
        · refine And.intro (fun q => absurd q (by decide)) (fun _ => ?_)
          exact hp_W_pick [0, 1, 2, 3, 4, 5] hW
        · refine And.intro (fun _ => ?_) (fun q => absurd rfl q)
          exact hp_W_pick [0, 1, 2, 3, 4, 5] hW
      have t116 : hp_W G 116 [(0, .ref 75), (1, .int (nI p)), (2, .int (nI x)), (3, .int (nI y)), (4, .int (zI (xr (met n X Y x y) j))), (5, .int (nI j)), (6, .int (nI (16 * p + j))), (7, .int (nI (16 * p + (j + 1) % n))), (8, .int (nI (min (Y j) (Y ((j + 1) % n))))), (9, .int (nI (max (Y j) (Y ((j + 1) % n)))))] [] h true 0 0 := by
        refine hp_run_sound hp_co V_mo_isIn C (fun _ _ _ _ _ _ _ hq => hq) [161] 40 _ _ _ _ _ _ _ ?_
        refine Exists.intro _ (And.intro hC.1 ?_)
        refine Exists.intro .int (Exists.intro 256 (Exists.intro _ (And.intro (Or.inl rfl) (And.intro hC.2.1.2.2.1 (And.intro (in_nI (by omega) (by decide)) ?_)))))
        rw [nI_clamp (show 16 * p + j < 2 ^ 31 by omega), aX j (by omega)]
        refine Exists.intro _ (And.intro hC.1 ?_)
        refine Exists.intro .int (Exists.intro 256 (Exists.intro _ (And.intro (Or.inl rfl) (And.intro hC.2.1.2.2.1 (And.intro (in_nI (by omega) (by decide)) ?_)))))
        rw [nI_clamp (show 16 * p + (j + 1) % n < 2 ^ 31 by omega), aX _ hjn]
        refine And.intro (fun q => ?_) (fun q => ?_)
        · refine t161 false ?_ _ _
          unfold met
          rw [decide_eq_false (fun c => q (congrArg nI c))]
          rfl
        · have q1 : X j = X ((j + 1) % n) := (nI_eq (by omega) (by omega)).mp q
          refine Exists.intro _ (And.intro hC.1 ?_)
          refine Exists.intro .int (Exists.intro 256 (Exists.intro _ (And.intro (Or.inl rfl) (And.intro hC.2.1.2.2.1 (And.intro (in_nI (by omega) (by decide)) ?_)))))
          rw [nI_clamp (show 16 * p + j < 2 ^ 31 by omega), aX j (by omega)]
          refine And.intro (fun q => ?_) (fun q2 => And.intro (fun q => ?_) (fun q3 => And.intro (fun q => ?_) (fun q4 => ?_)))
          · refine t161 false ?_ _ _
            unfold met
            rw [decide_eq_false (p := x < X j) (fun c => absurd ((nI_leI (by omega) (by omega)).mp q) (by omega)), Bool.false_and, Bool.and_false]
          · refine t161 false ?_ _ _
            unfold met
            rw [decide_eq_false (p := min (Y j) (Y ((j + 1) % n)) ≤ y) (fun c => absurd ((nI_ltI (by omega) (by omega)).mp q) (by omega)), Bool.false_and, Bool.and_false, Bool.and_false]
          · refine t161 false ?_ _ _
            unfold met
            rw [decide_eq_false (p := y < max (Y j) (Y ((j + 1) % n))) (fun c => absurd ((nI_leI (by omega) (by omega)).mp q) (by omega)), Bool.and_false, Bool.and_false, Bool.and_false]
          · refine t161 true ?_ _ _
            unfold met
            rw [decide_eq_true q1, decide_eq_true (p := x < X j) (Nat.lt_of_not_le (fun c => q2 ((nI_leI (by omega) (by omega)).mpr c))), decide_eq_true (p := min (Y j) (Y ((j + 1) % n)) ≤ y) (Nat.le_of_not_lt (fun c => q3 ((nI_ltI (by omega) (by omega)).mpr c))), decide_eq_true (p := y < max (Y j) (Y ((j + 1) % n))) (Nat.lt_of_not_le (fun c => q4 ((nI_leI (by omega) (by omega)).mpr c)))]
            rfl
      have t80 : hp_W G 80 [(0, .ref 75), (1, .int (nI p)), (2, .int (nI x)), (3, .int (nI y)), (4, .int (zI (xr (met n X Y x y) j))), (5, .int (nI j)), (6, .int (nI (16 * p + j))), (7, .int (nI (16 * p + (j + 1) % n))), (8, .int (nI (min (Y j) (Y ((j + 1) % n)))))] [] h true 0 0 := by
        refine hp_run_sound hp_co V_mo_isIn C (fun _ _ _ _ _ _ _ hq => hq) [116] 30 _ _ _ _ _ _ _ ?_
        refine Exists.intro _ (And.intro hC.1 ?_)
        refine Exists.intro .int (Exists.intro 256 (Exists.intro _ (And.intro (Or.inl rfl) (And.intro hC.2.1.2.2.2.1 (And.intro (in_nI (by omega) (by decide)) ?_)))))
        rw [nI_clamp (show 16 * p + j < 2 ^ 31 by omega), aY j (by omega)]
        refine Exists.intro _ (And.intro hC.1 ?_)
        refine Exists.intro .int (Exists.intro 256 (Exists.intro _ (And.intro (Or.inl rfl) (And.intro hC.2.1.2.2.2.1 (And.intro (in_nI (by omega) (by decide)) ?_)))))
        rw [nI_clamp (show 16 * p + (j + 1) % n < 2 ^ 31 by omega), aY _ hjn]
        refine And.intro (fun q => ?_) (fun q => ?_)
        · have q1 : ¬ Y j < Y ((j + 1) % n) := fun c => absurd ((nI_leI (by omega) (by omega)).mp q) (by omega)
          rw [(mn_ge _ _ q1).2] at t116
          refine Exists.intro _ (And.intro hC.1 ?_)
          refine Exists.intro .int (Exists.intro 256 (Exists.intro _ (And.intro (Or.inl rfl) (And.intro hC.2.1.2.2.2.1 (And.intro (in_nI (by omega) (by decide)) ?_)))))
          rw [nI_clamp (show 16 * p + j < 2 ^ 31 by omega), aY j (by omega)]
          exact t116
        · have q1 : Y j < Y ((j + 1) % n) := Nat.lt_of_not_le (fun c => q ((nI_leI (by omega) (by omega)).mpr c))
          rw [(mn_lt _ _ q1).2] at t116
          refine Exists.intro _ (And.intro hC.1 ?_)
          refine Exists.intro .int (Exists.intro 256 (Exists.intro _ (And.intro (Or.inl rfl) (And.intro hC.2.1.2.2.2.1 (And.intro (in_nI (by omega) (by decide)) ?_)))))
          rw [nI_clamp (show 16 * p + (j + 1) % n < 2 ^ 31 by omega), aY _ hjn]
          exact t116
      refine hp_run_sound hp_co V_mo_isIn C (fun _ _ _ _ _ _ _ hq => hq) [80] 60 _ _ _ _ _ _ _ ?_
      refine Exists.intro _ (And.intro hC.1 ?_)
      refine Exists.intro .int (Exists.intro 16 (Exists.intro _ (And.intro (Or.inl rfl) (And.intro hC.2.1.2.1 (And.intro (in_nI hp16 (by decide)) ?_)))))
      rw [nI_clamp (show p < 2 ^ 31 by omega), hn]
      refine And.intro (fun c => absurd c (nI_ge (by omega) (by omega))) (fun c => ?_)
      refine Exists.intro _ (And.intro hC.1 ?_)
      refine Exists.intro .int (Exists.intro 16 (Exists.intro _ (And.intro (Or.inl rfl) (And.intro hC.2.1.2.1 (And.intro (in_nI hp16 (by decide)) ?_)))))
      rw [nI_clamp (show p < 2 ^ 31 by omega), hn]
      refine And.intro (nI_ne0 (by omega) (by omega)) ?_
      refine Exists.intro _ (And.intro hC.1 ?_)
      have e6 : hp_c 16 * nI p + nI j = nI (16 * p + j) := by rw [e16, nI_add]
      have e7 : hp_c 16 * nI p + (nI j + hp_c 1 - (nI j + hp_c 1) / nI n * nI n) = nI (16 * p + (j + 1) % n) := by
        rw [e16, show nI j + hp_c 1 = nI (j + 1) from nI_1 j, pk_rem (by omega) (by omega) (by omega), nI_add]
      rw [e6, e7]
      refine Exists.intro .int (Exists.intro 256 (Exists.intro _ (And.intro (Or.inl rfl) (And.intro hC.2.1.2.2.2.1 (And.intro (in_nI (by omega) (by decide)) ?_)))))
      rw [nI_clamp (show 16 * p + j < 2 ^ 31 by omega), aY j (by omega)]
      refine Exists.intro _ (And.intro hC.1 ?_)
      refine Exists.intro .int (Exists.intro 256 (Exists.intro _ (And.intro (Or.inl rfl) (And.intro hC.2.1.2.2.2.1 (And.intro (in_nI (by omega) (by decide)) ?_)))))
      rw [nI_clamp (show 16 * p + (j + 1) % n < 2 ^ 31 by omega), aY _ hjn]
      refine And.intro (fun q => ?_) (fun q => ?_)
      · have q1 : ¬ Y j < Y ((j + 1) % n) := fun c => absurd ((nI_leI (by omega) (by omega)).mp q) (by omega)
        rw [(mn_ge _ _ q1).1] at t80
        refine Exists.intro _ (And.intro hC.1 ?_)
        refine Exists.intro .int (Exists.intro 256 (Exists.intro _ (And.intro (Or.inl rfl) (And.intro hC.2.1.2.2.2.1 (And.intro (in_nI (by omega) (by decide)) ?_)))))
        rw [nI_clamp (show 16 * p + (j + 1) % n < 2 ^ 31 by omega), aY _ hjn]
        exact hp_W_pick [0, 1, 2, 3, 4, 5, 6, 7, 8] t80
      · have q1 : Y j < Y ((j + 1) % n) := Nat.lt_of_not_le (fun c => q ((nI_leI (by omega) (by omega)).mpr c))
        rw [(mn_lt _ _ q1).1] at t80
        refine Exists.intro _ (And.intro hC.1 ?_)
        refine Exists.intro .int (Exists.intro 256 (Exists.intro _ (And.intro (Or.inl rfl) (And.intro hC.2.1.2.2.2.1 (And.intro (in_nI (by omega) (by decide)) ?_)))))
        rw [nI_clamp (show 16 * p + j < 2 ^ 31 by omega), aY j (by omega)]
        exact hp_W_pick [0, 1, 2, 3, 4, 5, 6, 7, 8] t80
  refine hp_run_sound hp_co V_mo_isIn C (fun _ _ _ _ _ _ _ hq => hq) [6] 8 _ _ _ _ _ _ _ ?_
  exact key n 0 (by omega)
