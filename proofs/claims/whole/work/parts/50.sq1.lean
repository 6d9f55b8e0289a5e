/-! squares, runs and shapes: an area's squares by their number 64 y + x -/
theorem cn_inv {g : Nat → Bool} : ∀ {n m : Nat}, m < cn g n → ∃ x, x < n ∧ g x = true ∧ cn g x = m
  | 0, m, h => absurd h (Nat.not_lt_zero _)
  | n + 1, m, h => by
    rw [cn_s] at h
    rcases Nat.lt_or_ge m (cn g n) with q | q
    · obtain ⟨x, h1, h2, h3⟩ := cn_inv q
      exact ⟨x, by omega, h2, h3⟩
    · cases e : g n with
      | true =>
        rw [e] at h
        exact ⟨n, by omega, e, by simp at h; omega⟩
      | false =>
        rw [e] at h
        simp at h
        omega
theorem cn_comp {ph st H : Nat → Bool} : ∀ n, (∀ k, k < n → ph k = (st k && H (cn st k))) → cn ph n = cn H (cn st n)
  | 0, _ => rfl
  | n + 1, h => by
    rw [cn_s, cn_s, cn_comp n (fun k hk => h k (by omega)), h n (by omega)]
    cases e : st n with
    | true => exact (cn_s _ _).symm
    | false => rfl
theorem cn_inj {g : Nat → Bool} {a b : Nat} (ha : g a = true) (hb : g b = true) (h : cn g a = cn g b) : a = b := by
  rcases Nat.lt_trichotomy a b with q | q | q
  · have := cn_in q ha
    omega
  · exact q
  · have := cn_in q hb
    omega
theorem cn_shift (g : Nat → Bool) (a : Nat) : ∀ n, cn g (a + n) = cn g a + cn (fun i => g (a + i)) n
  | 0 => rfl
  | n + 1 => by
    show cn g (a + n + 1) = _
    rw [cn_s, cn_s, cn_shift g a n]
    omega
def qs (f : Nat → Int64) (k : Nat) : Bool := bb (f (k / 64)) (k % 64)
def sts (f : Nat → Int64) (k : Nat) : Bool := bb (xst (f (k / 64))) (k % 64)
theorem cn_row (f : Nat → Int64) : ∀ y, cn (sts f) (64 * y) = rs f y
  | 0 => rfl
  | y + 1 => by
    rw [show 64 * (y + 1) = 64 * y + 64 by omega, cn_shift, cn_row f y, rs_s]
    unfold nr
    rw [cn_congr 64 (fun i hi => show sts f (64 * y + i) = bb (xst (f y)) i by
      unfold sts
      rw [show (64 * y + i) / 64 = y by omega, show (64 * y + i) % 64 = i by omega])]
theorem cn_sts (f : Nat → Int64) (y : Nat) {x : Nat} (hx : x ≤ 64) : cn (sts f) (64 * y + x) = rs f y + cn (bb (xst (f y))) x := by
  rw [cn_shift, cn_row]
  rw [cn_congr x (fun i hi => show sts f (64 * y + i) = bb (xst (f y)) i by
      unfold sts
      rw [show (64 * y + i) / 64 = y by omega, show (64 * y + i) % 64 = i by omega])]
theorem sts_eq (f : Nat → Int64) (k : Nat) : sts f k = (qs f k && !(decide (k % 64 ≠ 0) && qs f (k - 1))) := by
  unfold sts qs
  rw [bb_xst _ (Nat.mod_lt _ (by decide))]
  by_cases h : k % 64 = 0
  · rw [h]
    simp
  · rw [show (k - 1) / 64 = k / 64 by omega, show (k - 1) % 64 = k % 64 - 1 by omega, decide_eq_true (show 1 ≤ k % 64 by omega), decide_eq_true (show k % 64 ≠ 0 from h)]
/-- the number of the run that square k lies in -/
def rno (f : Nat → Int64) (k : Nat) : Nat := cn (sts f) (k + 1) - 1
theorem rno_eq (f : Nat → Int64) {y x : Nat} (hx : x < 64) (hb : bb (f y) x = true) : rno f (64 * y + x) = rs f y + rix (f y) x := by
  unfold rno rix
  rw [show 64 * y + x + 1 = 64 * y + (x + 1) by omega, cn_sts f y (by omega)]
  have := rix_pos (f y) x hx hb
  omega
theorem rno_lt (f : Nat → Int64) {k : Nat} (hk : k < 4096) (hq : qs f k = true) : rno f k < rs f 64 := by
  have h1 : cn (sts f) (k + 1) ≤ cn (sts f) (64 * 64) := cn_mono _ (by omega)
  rw [cn_row] at h1
  have h2 := rno_eq f (y := k / 64) (x := k % 64) (Nat.mod_lt _ (by decide)) hq
  have h3 := rix_pos (f (k / 64)) (k % 64) (Nat.mod_lt _ (by decide)) hq
  have h4 := cn_sts f (k / 64) (x := k % 64 + 1) (by omega)
  rw [show 64 * (k / 64) + (k % 64 + 1) = k + 1 by omega] at h4
  unfold rno
  omega
theorem rno_pos (f : Nat → Int64) {k : Nat} (hq : qs f k = true) : 1 ≤ cn (sts f) (k + 1) := by
  have h3 := rix_pos (f (k / 64)) (k % 64) (Nat.mod_lt _ (by decide)) hq
  have h4 := cn_sts f (k / 64) (x := k % 64 + 1) (by omega)
  rw [show 64 * (k / 64) + (k % 64 + 1) = k + 1 by omega] at h4
  omega
theorem rno_st (f : Nat → Int64) {k : Nat} (hs : sts f k = true) : rno f k = cn (sts f) k := by
  unfold rno
  rw [cn_s, hs]
  rfl
theorem rno_no (f : Nat → Int64) {k : Nat} (hq : qs f k = true) (hs : sts f k = false) : 1 ≤ k ∧ k % 64 ≠ 0 ∧ qs f (k - 1) = true ∧ rno f k = rno f (k - 1) := by
  rw [sts_eq, hq, Bool.true_and] at hs
  have h1 : k % 64 ≠ 0 ∧ qs f (k - 1) = true := by simpa using hs
  refine ⟨by omega, h1.1, h1.2, ?_⟩
  unfold rno
  have e : k - 1 + 1 = k := by omega
  have hs2 : sts f k = false := by rw [sts_eq, hq, Bool.true_and]; exact hs
  rw [e, cn_s, hs2]
  rfl
def adj (f : Nat → Int64) (d a b : Nat) : Prop := qs f a = true ∧ qs f b = true ∧ a < 4096 ∧ b < 4096 ∧ ((b = a + 1 ∧ a / 64 = b / 64) ∨ (b / 64 = a / 64 + 1 ∧ a % 64 ≤ b % 64 + d ∧ b % 64 ≤ a % 64 + d))
theorem run_cnx (f : Nat → Int64) (d : Nat) : ∀ n a b, b = a + n → b < 4096 → qs f a = true → qs f b = true → rno f a = rno f b → cnx (adj f d) a b
  | 0, a, b, e, _, _, _, _ => by
    subst e
    exact cnx_rf _ _
  | n + 1, a, b, e, hb, ha1, hb1, hr => by
    have hs : sts f b = false := by
      cases h : sts f b with
      | false => rfl
      | true =>
        exfalso
        have h1 : rno f b = cn (sts f) b := rno_st f h
        have h2 : cn (sts f) (a + 1) ≤ cn (sts f) b := cn_mono _ (by omega)
        have h3 := rno_pos f ha1
        unfold rno at hr h1
        omega
    obtain ⟨h1, h2, h3, h4⟩ := rno_no f hb1 hs
    refine cnx_tr (run_cnx f d n a (b - 1) (by omega) (by omega) ha1 h3 (hr.trans h4)) (cnx_of ⟨h3, hb1, by omega, hb, Or.inl ⟨by omega, by omega⟩⟩)
theorem run_con (f : Nat → Int64) (d : Nat) {a b : Nat} (ha : a < 4096) (hb : b < 4096) (ha1 : qs f a = true) (hb1 : qs f b = true) (hr : rno f a = rno f b) : cnx (adj f d) a b := by
  rcases Nat.le_total a b with q | q
  · exact run_cnx f d (b - a) a b (by omega) hb ha1 hb1 hr
  · exact cnx_sy (run_cnx f d (a - b) b a (by omega) ha hb1 ha1 hr.symm)
/-- between a place without a bit and one with a bit a run starts -/
theorem st_between (x : Int64) : ∀ n q i, i = q + n + 1 → i < 64 → bb x q = false → bb x i = true → ∃ s, q < s ∧ s ≤ i ∧ bb (xst x) s = true
  | 0, q, i, e, hi, h1, h2 => ⟨i, by omega, Nat.le_refl _, by
      rw [bb_xst x hi, h2, show i - 1 = q by omega, h1]
      simp⟩
  | n + 1, q, i, e, hi, h1, h2 => by
    cases h : bb x (i - 1) with
    | false => exact ⟨i, by omega, Nat.le_refl _, by
        rw [bb_xst x hi, h2, h]
        simp⟩
    | true =>
      obtain ⟨s, a1, a2, a3⟩ := st_between x n q (i - 1) (by omega) (by omega) h1 h
      exact ⟨s, a1, by omega, a3⟩
theorem rix_mono (x : Int64) {p q : Nat} (h : p ≤ q) : rix x p ≤ rix x q := by
  have : cn (bb (xst x)) (p + 1) ≤ cn (bb (xst x)) (q + 1) := cn_mono _ (by omega)
  unfold rix
  omega
theorem rix_run (x : Int64) {p : Nat} : ∀ n i, i = p + n → i < 64 → (∀ j, p ≤ j → j ≤ i → bb x j = true) → rix x i = rix x p
  | 0, i, e, _, _ => by rw [e]; rfl
  | n + 1, i, e, hi, h => by
    rw [← rix_run x n (i - 1) (by omega) (by omega) (fun j h1 h2 => h j h1 (by omega))]
    unfold rix
    rw [cn_s, bb_xst x hi, h i (by omega) (Nat.le_refl _), h (i - 1) (by omega) (by omega), show i - 1 + 1 = i by omega, decide_eq_true (show 1 ≤ i by omega)]
    rfl
theorem bb_xlv (x : Int64) : ∀ j p, p < 64 → bb (xlv x j) p = (bb x p && decide (j ≤ rix x p))
  | 0, p, _ => by simp [xlv]
  | j + 1, p, hp => by
    have ih := bb_xlv x j
    show bb (xlv x j ^^^ xfr (xlv x j)) p = _
    generalize xlv x j = w at ih
    by_cases hw : w = 0
    · subst hw
      rw [show xfr 0 = 0 from by decide, show (0 : Int64) ^^^ 0 = 0 from by decide, bb_0]
      have h1 := ih p hp
      rw [bb_0] at h1
      cases hb : bb x p with
      | false => rfl
      | true =>
        rw [hb] at h1
        have h2 : ¬ j ≤ rix x p := by simpa using h1.symm
        rw [decide_eq_false (show ¬ j + 1 ≤ rix x p by omega)]
        rfl
    · obtain ⟨a, b, hab, hb64, h1, h2, h3, h4⟩ := xfr_spec hw
      have ha := h2 a (Nat.le_refl _) hab
      rw [ih a (by omega)] at ha
      have ha1 : bb x a = true ∧ j ≤ rix x a := by simpa using ha
      have hin : ∀ i, a ≤ i → i < b → bb x i = true := fun i q1 q2 => by
        have := h2 i q1 q2
        rw [ih i (by omega)] at this
        exact (by simpa using this : bb x i = true ∧ _).1
      have hst : bb (xst x) a = true := by
        rw [bb_xst x (by omega), ha1.1]
        by_cases q : 1 ≤ a
        · cases hb : bb x (a - 1) with
          | false => simp
          | true =>
            exfalso
            have h5 := h1 (a - 1) (by omega)
            rw [ih (a - 1) (by omega), hb] at h5
            have h6 : ¬ j ≤ rix x (a - 1) := by simpa using h5
            have h7 : rix x a = rix x (a - 1) := rix_run x 1 a (by omega) (by omega) (fun i q1 q2 => by
              rcases Nat.lt_or_ge i a with c | c
              · rw [show i = a - 1 by omega]; exact hb
              · rw [show i = a by omega]; exact ha1.1)
            omega
        · rw [decide_eq_false q]
          rfl
      have hra : rix x a = cn (bb (xst x)) a := by
        unfold rix
        rw [cn_s, hst]
        rfl
      have hrj : rix x a = j := by
        rcases Nat.lt_or_ge j (rix x a) with q | q
        · exfalso
          rw [hra] at q
          obtain ⟨z, z1, z2, z3⟩ := cn_inv q
          have z4 : bb x z = true := by
            rw [bb_xst x (by omega)] at z2
            exact (by simpa using z2 : bb x z = true ∧ _).1
          have z5 := h1 z z1
          rw [ih z (by omega), z4] at z5
          have z6 : ¬ j ≤ rix x z := by simpa using z5
          have z7 : rix x z = cn (bb (xst x)) z := by
            unfold rix
            rw [cn_s, z2]
            rfl
          omega
        · omega
      rw [bb_xor, ih p hp, h4 p hp]
      rcases Nat.lt_or_ge p a with c | c
      · have h5 := h1 p c
        rw [ih p hp] at h5
        rw [h5, decide_eq_false (show ¬ (a ≤ p ∧ p < b) by omega)]
        cases hb : bb x p with
        | false => rfl
        | true =>
          rw [hb] at h5
          have h6 : ¬ j ≤ rix x p := by simpa using h5
          rw [decide_eq_false (show ¬ j + 1 ≤ rix x p by omega)]
          rfl
      · rcases Nat.lt_or_ge p b with c2 | c2
        · have h5 : rix x p = rix x a := rix_run x (p - a) p (by omega) hp (fun i q1 q2 => hin i q1 (by omega))
          rw [hin p c c2, decide_eq_true (show a ≤ p ∧ p < b from ⟨c, c2⟩), h5, hrj, decide_eq_true (Nat.le_refl j), decide_eq_false (show ¬ j + 1 ≤ j by omega)]
          rfl
        · rw [decide_eq_false (show ¬ (a ≤ p ∧ p < b) by omega), Bool.xor_false]
          cases hb : bb x p with
          | false => rfl
          | true =>
            have hxb : bb x b = false := by
              rcases Nat.lt_or_ge b 64 with q | q
              · rw [ih b q] at h3
                cases hbb : bb x b with
                | false => rfl
                | true =>
                  exfalso
                  rw [hbb] at h3
                  have h6 : ¬ j ≤ rix x b := by simpa using h3
                  have := rix_mono x (show a ≤ b by omega)
                  omega
              · exact bb_big q
            have hpb : b ≠ p := fun e => by rw [e, hb] at hxb; cases hxb
            obtain ⟨s, s1, s2, s3⟩ := st_between x (p - b - 1) b p (by omega) hp hxb hb
            have c1 : cn (bb (xst x)) (a + 1) ≤ cn (bb (xst x)) s := cn_mono _ (by omega)
            have c3 : cn (bb (xst x)) s < cn (bb (xst x)) (p + 1) := cn_in (by omega) s3
            have c4 : cn (bb (xst x)) (a + 1) = j + 1 := by
              rw [cn_s, hst, ← hra, hrj]
              rfl
            have c5 : j + 1 ≤ rix x p := by
              unfold rix
              omega
            rw [decide_eq_true c5, decide_eq_true (show j ≤ rix x p by omega)]
theorem bb_xrn (x : Int64) (j : Nat) {p : Nat} (hp : p < 64) : bb (xrn x j) p = (bb x p && decide (rix x p = j)) := by
  have h1 := bb_xlv x j p hp
  have h2 : bb (xlv x j ^^^ xrn x j) p = _ := bb_xlv x (j + 1) p hp
  rw [bb_xor, h1] at h2
  cases hb : bb x p with
  | false =>
    rw [hb] at h2
    simpa using h2
  | true =>
    rw [hb] at h2
    cases hc : bb (xrn x j) p with
    | false =>
      rw [hc] at h2
      have : (j ≤ rix x p) ↔ (j + 1 ≤ rix x p) := by simpa using h2
      rw [decide_eq_false (show ¬ rix x p = j by omega)]
      rfl
    | true =>
      rw [hc] at h2
      have : ¬ ((j ≤ rix x p) ↔ (j + 1 ≤ rix x p)) := by
        intro e
        by_cases q : j ≤ rix x p
        · rw [decide_eq_true q, decide_eq_true (e.mp q)] at h2
          exact absurd h2 (by decide)
        · rw [decide_eq_false q, decide_eq_false (fun c => q (e.mpr c))] at h2
          exact absurd h2 (by decide)
      rw [decide_eq_true (show rix x p = j by omega)]
      rfl
theorem rix_lt (x : Int64) {p : Nat} (hp : p < 64) (hb : bb x p = true) : rix x p < cn (bb (xst x)) 64 := by
  have h1 := rix_pos x p hp hb
  have h2 : cn (bb (xst x)) (p + 1) ≤ cn (bb (xst x)) 64 := cn_mono _ (by omega)
  unfold rix
  omega
