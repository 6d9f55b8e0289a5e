/-! a long by its bits -/
def ofB (f : Nat → Bool) : Int64 := lN (fs 1 (fun i => (f i).toNat) 64)
theorem bb_ofB (f : Nat → Bool) {i : Nat} (hi : i < 64) : bb (ofB f) i = f i := by
  have hc : ∀ j, j < 64 → (fun i => (f i).toNat) j < 2 ^ 1 := fun j _ => by have := bn_le (f j); show (f j).toNat < 2; omega
  have hl := fs_lt 64 hc
  unfold ofB
  rw [← nn_bit, nn_lN hl]
  have h := fs_bit 64 hc i 0 (by decide)
  rw [Nat.one_mul, Nat.add_zero] at h
  rw [h]
  simp only [hi, decide_true, Bool.true_and]
  cases f i <;> rfl
theorem ofB_eq {x : Int64} {f : Nat → Bool} (h : ∀ i, i < 64 → bb x i = f i) : x = ofB f := bb_ext (fun i hi => by rw [h i hi, bb_ofB f hi])
theorem ofB_bb (x : Int64) : ofB (bb x) = x := (ofB_eq (fun _ _ => rfl)).symm
/-! leftOf -/
theorem nn_1shl : ∀ k, k < 64 → nn ((1 : Int64) <<< ((nI k).toInt64 &&& 63)) = 2 ^ k := by decide +kernel
def xlo (n : Nat) : Int64 := ofB fun i => decide (i < n)
theorem xlo_shl {n : Nat} (h : n < 64) : ((1 : Int64) <<< ((nI n).toInt64 &&& 63)) - 1 = xlo n := by
  refine ofB_eq (fun i hi => ?_)
  rw [← nn_bit, nn_sub, nn_1shl n h, nn_1]
  have hp := Nat.two_pow_pos n
  have hp3 : 2 ^ n < 2 ^ 64 := Nat.pow_lt_pow_right (by decide) h
  have e1 : 2 ^ 64 - 1 + 2 ^ n = (2 ^ n - 1) + 2 ^ 64 := by omega
  rw [e1, Nat.add_mod_right, Nat.mod_eq_of_lt (by omega), Nat.testBit_two_pow_sub_one]
set_option maxRecDepth 20000 in
theorem c_ro_leftOf (l : Launch) (h : hp_H) (n : Nat) (hn : n ≤ 64) : hp_M l Y_ro_leftOf [.int (nI n)] h true 0 0 (hq_P (.inl (some (.long (xlo n)))) h) := by
  refine hp_start (T := T_ro_leftOf) (by decide) rfl (fun σ => Nat.le_of_ble_eq_true rfl) (fun G C => ?_)
  refine hp_run_sound hp_co V_ro_leftOf C (fun _ _ _ _ _ _ _ hq => hq) [] 20 _ _ _ _ _ _ _ ?_
  refine And.intro (fun c1 => ?_) (fun c1 => ?_)
  · have h1 : n < 64 := (nI_ltI (b := 64) (by omega) (by decide)).mp c1
    refine And.intro rfl (And.intro rfl (And.intro ?_ rfl))
    rw [← xlo_shl h1]
    rfl
  · have h1 : ¬ n < 64 := fun q => c1 (nI_lt q (by decide))
    refine And.intro rfl (And.intro rfl (And.intro ?_ rfl))
    have e : (-1 : Int64) = xlo n := ofB_eq (fun i hi => by rw [bb_m1 hi]; exact (decide_eq_true (by omega)).symm)
    rw [← e]
/-! runEnd -/
def xre (x : Int64) (s : Nat) : Nat := s + xfp ((x.toUInt64 >>> ((nI s).toInt64.toUInt64 &&& Int64.toUInt64 63)).toInt64 ^^^ (-1))
theorem xre_spec (x : Int64) {s : Nat} (hs : s < 64) : s ≤ xre x s ∧ xre x s ≤ 64 ∧ (∀ i, s ≤ i → i < xre x s → bb x i = true) ∧ bb x (xre x s) = false := by
  have hb : ∀ i, i < 64 → bb ((x.toUInt64 >>> ((nI s).toInt64.toUInt64 &&& Int64.toUInt64 63)).toInt64 ^^^ (-1)) i = !bb x (s + i) := fun i hi => by
    rw [bb_not _ hi, bb_shr hs]
  unfold xre
  generalize (x.toUInt64 >>> ((nI s).toInt64.toUInt64 &&& Int64.toUInt64 63)).toInt64 ^^^ (-1) = y at hb
  by_cases h : y = 0
  · subst h
    have hs0 : s = 0 := by
      rcases Nat.eq_zero_or_pos s with e | e
      · exact e
      · have := hb (64 - s) (by omega)
        rw [bb_0, bb_big (by omega)] at this
        cases this
    subst hs0
    rw [xfp_0]
    refine ⟨by omega, by omega, fun i h1 h2 => ?_, bb_big (by omega)⟩
    have := hb i (by omega)
    rw [bb_0, Nat.zero_add] at this
    cases hx : bb x i with
    | true => rfl
    | false => rw [hx] at this; cases this
  · obtain ⟨p1, p2, p3⟩ := xfp_spec h
    have h4 : xfp y ≤ 64 - s := by
      rcases Nat.lt_or_ge (64 - s) (xfp y) with q | q
      · have h5 := p3 (64 - s) q
        rw [hb _ (by omega), bb_big (by omega)] at h5
        cases h5
      · exact q
    refine ⟨by omega, by omega, fun i h1 h2 => ?_, ?_⟩
    · have h5 := p3 (i - s) (by omega)
      rw [hb _ (by omega), show s + (i - s) = i by omega] at h5
      cases hx : bb x i with
      | true => rfl
      | false => rw [hx] at h5; cases h5
    · rw [hb _ p1] at p2
      cases hx : bb x (s + xfp y) with
      | false => rfl
      | true => rw [hx] at p2; cases p2
set_option maxRecDepth 20000 in
theorem c_ro_runEnd (l : Launch) (h : hp_H) (x : Int64) (s : Nat) : hp_M l Y_ro_runEnd [.long x, .int (nI s)] h true 0 0 (hq_P (.inl (some (.int (nI (xre x s))))) h) := by
  refine hp_start (T := T_ro_runEnd) (by decide) rfl (fun σ => Nat.le_of_ble_eq_true rfl) (fun G C => ?_)
  refine hp_run_sound hp_co V_ro_runEnd C (fun _ _ _ _ _ _ _ hq => hq) [] 20 _ _ _ _ _ _ _ ?_
  refine ic_P (c_ro_firstPlace l h _) (Nat.le_refl _) (Nat.le_refl _) ?_
  refine And.intro rfl (And.intro rfl (And.intro ?_ rfl))
  unfold xre
  rw [← nI_add]
/-! widened and narrowed: not farther than d, on a line of 64 -/
def dlb (f : Nat → Bool) (d i : Nat) : Bool := (List.range 64).any fun j => f j && (decide (i ≤ j + d) && decide (j ≤ i + d))
theorem dlb_iff {f : Nat → Bool} {d i : Nat} : dlb f d i = true ↔ ∃ j, j < 64 ∧ f j = true ∧ i ≤ j + d ∧ j ≤ i + d := by
  unfold dlb
  rw [List.any_eq_true]
  constructor
  · rintro ⟨j, h1, h2⟩
    rw [Bool.and_eq_true, Bool.and_eq_true, decide_eq_true_eq, decide_eq_true_eq] at h2
    exact ⟨j, List.mem_range.mp h1, h2.1, h2.2.1, h2.2.2⟩
  · rintro ⟨j, h1, h2, h3, h4⟩
    exact ⟨j, List.mem_range.mpr h1, by rw [h2, decide_eq_true h3, decide_eq_true h4]; rfl⟩
def erb (f : Nat → Bool) (d i : Nat) : Bool := decide (d ≤ i) && (decide (i + d < 64) && (List.range 64).all fun j => f j || !(decide (i ≤ j + d) && decide (j ≤ i + d)))
theorem erb_iff {f : Nat → Bool} {d i : Nat} : erb f d i = true ↔ d ≤ i ∧ i + d < 64 ∧ ∀ j, i ≤ j + d → j ≤ i + d → f j = true := by
  unfold erb
  rw [Bool.and_eq_true, Bool.and_eq_true, decide_eq_true_eq, decide_eq_true_eq, List.all_eq_true]
  constructor
  · rintro ⟨h1, h2, h3⟩
    refine ⟨h1, h2, fun j h4 h5 => ?_⟩
    have h6 := h3 j (List.mem_range.mpr (by omega))
    rw [decide_eq_true h4, decide_eq_true h5] at h6
    simpa using h6
  · rintro ⟨h1, h2, h3⟩
    refine ⟨h1, h2, fun j h4 => ?_⟩
    by_cases h5 : i ≤ j + d
    · by_cases h6 : j ≤ i + d
      · rw [h3 j h5 h6]; rfl
      · simp [h6]
    · simp [h5]
def xwi (x : Int64) (d : Nat) : Int64 := ofB (dlb (bb x) d)
def xna (x : Int64) (d : Nat) : Int64 := ofB (erb (bb x) d)
theorem bool_ext {a b : Bool} (h : a = true ↔ b = true) : a = b := by
  cases a <;> cases b <;> simp_all
theorem xwi_0 (x : Int64) : xwi x 0 = x := by
  refine Eq.symm (ofB_eq (fun i hi => bool_ext ?_))
  rw [dlb_iff]
  constructor
  · intro h
    exact ⟨i, hi, h, by omega, by omega⟩
  · rintro ⟨j, h1, h2, h3, h4⟩
    rw [show i = j by omega]
    exact h2
theorem xna_0 (x : Int64) : xna x 0 = x := by
  refine Eq.symm (ofB_eq (fun i hi => bool_ext ?_))
  rw [erb_iff]
  constructor
  · intro h
    exact ⟨by omega, by omega, fun j h1 h2 => by rw [show j = i by omega]; exact h⟩
  · rintro ⟨h1, h2, h3⟩
    exact h3 i (by omega) (by omega)
theorem xwi_step (x : Int64) {d s : Nat} (hs : s ≤ d + 1) (h64 : s < 64) : xwi x d ||| ((xwi x d <<< ((nI s).toInt64 &&& 63)) ||| ((xwi x d).toUInt64 >>> ((nI s).toInt64.toUInt64 &&& Int64.toUInt64 63)).toInt64) = xwi x (d + s) := by
  refine ofB_eq (fun i hi => bool_ext ?_)
  rw [bb_or, bb_or, bb_shl h64 _ hi, bb_shr h64, dlb_iff]
  have hb : ∀ j, j < 64 → (bb (xwi x d) j = true ↔ ∃ j', j' < 64 ∧ bb x j' = true ∧ j ≤ j' + d ∧ j' ≤ j + d) := fun j hj => by
    unfold xwi
    rw [bb_ofB _ hj, dlb_iff]
  constructor
  · intro h
    rw [Bool.or_eq_true, Bool.or_eq_true, Bool.and_eq_true, decide_eq_true_eq] at h
    rcases h with h | ⟨h0, h⟩ | h
    · obtain ⟨j, h1, h2, h3, h4⟩ := (hb i hi).mp h
      exact ⟨j, h1, h2, by omega, by omega⟩
    · obtain ⟨j, h1, h2, h3, h4⟩ := (hb (i - s) (by omega)).mp h
      exact ⟨j, h1, h2, by omega, by omega⟩
    · rcases Nat.lt_or_ge (s + i) 64 with q | q
      · obtain ⟨j, h1, h2, h3, h4⟩ := (hb (s + i) q).mp h
        exact ⟨j, h1, h2, by omega, by omega⟩
      · rw [bb_big q] at h; cases h
  · rintro ⟨j, h1, h2, h3, h4⟩
    rw [Bool.or_eq_true, Bool.or_eq_true, Bool.and_eq_true, decide_eq_true_eq]
    by_cases q1 : i ≤ j + d
    · by_cases q2 : j ≤ i + d
      · exact Or.inl ((hb i hi).mpr ⟨j, h1, h2, q1, q2⟩)
      · exact Or.inr (Or.inr ((hb (s + i) (by omega)).mpr ⟨j, h1, h2, by omega, by omega⟩))
    · exact Or.inr (Or.inl ⟨by omega, (hb (i - s) (by omega)).mpr ⟨j, h1, h2, by omega, by omega⟩⟩)
theorem xna_step (x : Int64) {d s : Nat} (hs : s ≤ d + 1) (h64 : s < 64) : xna x d &&& ((xna x d <<< ((nI s).toInt64 &&& 63)) &&& ((xna x d).toUInt64 >>> ((nI s).toInt64.toUInt64 &&& Int64.toUInt64 63)).toInt64) = xna x (d + s) := by
  refine ofB_eq (fun i hi => bool_ext ?_)
  rw [bb_and, bb_and, bb_shl h64 _ hi, bb_shr h64, erb_iff]
  have hb : ∀ j, j < 64 → (bb (xna x d) j = true ↔ d ≤ j ∧ j + d < 64 ∧ ∀ j', j ≤ j' + d → j' ≤ j + d → bb x j' = true) := fun j hj => by
    unfold xna
    rw [bb_ofB _ hj, erb_iff]
  constructor
  · intro h
    rw [Bool.and_eq_true, Bool.and_eq_true, Bool.and_eq_true, decide_eq_true_eq] at h
    obtain ⟨h1, ⟨h2, h3⟩, h4⟩ := h
    have q : s + i < 64 := by
      rcases Nat.lt_or_ge (s + i) 64 with q | q
      · exact q
      · rw [bb_big q] at h4; cases h4
    obtain ⟨a1, a2, a3⟩ := (hb i hi).mp h1
    obtain ⟨b1, b2, b3⟩ := (hb (i - s) (by omega)).mp h3
    obtain ⟨c1, c2, c3⟩ := (hb (s + i) q).mp h4
    refine ⟨by omega, by omega, fun j e1 e2 => ?_⟩
    by_cases q1 : i ≤ j + d
    · by_cases q2 : j ≤ i + d
      · exact a3 j q1 q2
      · exact c3 j (by omega) (by omega)
    · exact b3 j (by omega) (by omega)
  · rintro ⟨h1, h2, h3⟩
    rw [Bool.and_eq_true, Bool.and_eq_true, Bool.and_eq_true, decide_eq_true_eq]
    exact ⟨(hb i hi).mpr ⟨by omega, by omega, fun j e1 e2 => h3 j (by omega) (by omega)⟩, ⟨by omega, (hb (i - s) (by omega)).mpr ⟨by omega, by omega, fun j e1 e2 => h3 j (by omega) (by omega)⟩⟩, (hb (s + i) (by omega)).mpr ⟨by omega, by omega, fun j e1 e2 => h3 j (by omega) (by omega)⟩⟩
/-- the step of both -/
theorem min_step {d e : Nat} (h : e < d) (hd : d ≤ 64) : (if nI e + 1 ≤ nI d - nI e then nI e + 1 else nI d - nI e) = nI (if e + 1 ≤ d - e then e + 1 else d - e) := by
  rw [pk_sub (by omega), nI_1]
  by_cases q : e + 1 ≤ d - e
  · rw [if_pos q, if_pos (nI_le q (by omega))]
  · rw [if_neg q, if_neg (nI_ge (by omega) (by omega))]
set_option maxRecDepth 20000 in
theorem c_ro_widened (l : Launch) (h : hp_H) (x : Int64) (d : Nat) (hd : d ≤ 64) : hp_M l Y_ro_widened [.long x, .int (nI d)] h true 0 0 (hq_P (.inl (some (.long (xwi x d)))) h) := by
  refine hp_start (T := T_ro_widened) (by decide) rfl (fun σ => Nat.le_of_ble_eq_true rfl) (fun G C => ?_)
  have key : ∀ (m e : Nat) (t : Int32), e ≤ d → d ≤ e + m → hp_W G 8 [(0, .long x), (2, .int (nI d)), (3, .long (xwi x e)), (5, .int t), (6, .int (nI e))] [] h true 0 0 := by
    intro m
    induction m with
    | zero =>
      intro e t h1 h2
      have q : e = d := by omega
      subst q
      refine hp_run_sound hp_co V_ro_widened C (fun _ _ _ _ _ _ _ hq => hq) [8] 6 _ _ _ _ _ _ _ ?_
      refine And.intro (fun c => ?_) (fun c => absurd (nI_le (Nat.le_refl e) (by omega)) c)
      exact And.intro rfl (And.intro rfl (And.intro rfl rfl))
    | succ m ih =>
      intro e t h1 h2
      refine hp_run_sound hp_co V_ro_widened C (fun _ _ _ _ _ _ _ hq => hq) [8] 40 _ _ _ _ _ _ _ ?_
      refine And.intro (fun c => ?_) (fun c => ?_)
      · have q : e = d := by
          rcases Nat.lt_or_ge e d with q | q
          · exact absurd c (nI_ge q (by omega))
          · omega
        subst q
        exact And.intro rfl (And.intro rfl (And.intro rfl rfl))
      · have q : e < d := by
          rcases Nat.lt_or_ge e d with q | q
          · exact q
          · exact absurd (nI_le q (by omega)) c
        refine ic_P (M_swap (c_jm_min l h _ _)) (Nat.le_refl _) (Nat.le_refl _) ?_
        have hW := ih (e + (if e + 1 ≤ d - e then e + 1 else d - e)) (nI (if e + 1 ≤ d - e then e + 1 else d - e)) (by split <;> omega) (by split <;> omega)
        rw [← xwi_step x (by split <;> omega) (by split <;> omega), ← nI_add, ← min_step q hd] at hW
        exact hW
  have h0 := key d 0 1 (Nat.zero_le _) (by omega)
  rw [xwi_0] at h0
  refine hp_run_sound hp_co V_ro_widened C (fun _ _ _ _ _ _ _ hq => hq) [8] 10 _ _ _ _ _ _ _ ?_
  exact h0
set_option maxRecDepth 20000 in
theorem c_ro_narrowed (l : Launch) (h : hp_H) (x : Int64) (d : Nat) (hd : d ≤ 64) : hp_M l Y_ro_narrowed [.long x, .int (nI d)] h true 0 0 (hq_P (.inl (some (.long (xna x d)))) h) := by
  refine hp_start (T := T_ro_narrowed) (by decide) rfl (fun σ => Nat.le_of_ble_eq_true rfl) (fun G C => ?_)
  have key : ∀ (m e : Nat) (t : Int32), e ≤ d → d ≤ e + m → hp_W G 8 [(0, .long x), (2, .int (nI d)), (3, .long (xna x e)), (5, .int t), (6, .int (nI e))] [] h true 0 0 := by
    intro m
    induction m with
    | zero =>
      intro e t h1 h2
      have q : e = d := by omega
      subst q
      refine hp_run_sound hp_co V_ro_narrowed C (fun _ _ _ _ _ _ _ hq => hq) [8] 6 _ _ _ _ _ _ _ ?_
      refine And.intro (fun c => ?_) (fun c => absurd (nI_le (Nat.le_refl e) (by omega)) c)
      exact And.intro rfl (And.intro rfl (And.intro rfl rfl))
    | succ m ih =>
      intro e t h1 h2
      refine hp_run_sound hp_co V_ro_narrowed C (fun _ _ _ _ _ _ _ hq => hq) [8] 40 _ _ _ _ _ _ _ ?_
      refine And.intro (fun c => ?_) (fun c => ?_)
      · have q : e = d := by
          rcases Nat.lt_or_ge e d with q | q
          · exact absurd c (nI_ge q (by omega))
          · omega
        subst q
        exact And.intro rfl (And.intro rfl (And.intro rfl rfl))
      · have q : e < d := by
          rcases Nat.lt_or_ge e d with q | q
          · exact q
          · exact absurd (nI_le q (by omega)) c
        refine ic_P (M_swap (c_jm_min l h _ _)) (Nat.le_refl _) (Nat.le_refl _) ?_
        have hW := ih (e + (if e + 1 ≤ d - e then e + 1 else d - e)) (nI (if e + 1 ≤ d - e then e + 1 else d - e)) (by split <;> omega) (by split <;> omega)
        rw [← xna_step x (by split <;> omega) (by split <;> omega), ← nI_add, ← min_step q hd] at hW
        exact hW
  have h0 := key d 0 1 (Nat.zero_le _) (by omega)
  rw [xna_0] at h0
  refine hp_run_sound hp_co V_ro_narrowed C (fun _ _ _ _ _ _ _ hq => hq) [8] 10 _ _ _ _ _ _ _ ?_
  exact h0
