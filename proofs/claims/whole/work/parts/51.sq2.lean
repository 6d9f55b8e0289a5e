/-! shapes and nets: the class's runs hang together as the squares do -/
theorem div_row {y x : Nat} (hx : x < 64) : (64 * y + x) / 64 = y ∧ (64 * y + x) % 64 = x := by omega
theorem qs_at (f : Nat → Int64) {y x : Nat} (hx : x < 64) : qs f (64 * y + x) = bb (f y) x := by
  unfold qs
  rw [(div_row hx).1, (div_row hx).2]
theorem jpq_of (f : Nat → Int64) (d : Nat) {a b : Nat} (h : adj f d a b) : cnx (jpq f d 64 0) (rno f a) (rno f b) := by
  obtain ⟨ha, hb, ha2, hb2, h | h⟩ := h
  · have hs : sts f b = false := by
      rw [sts_eq, hb, show b - 1 = a by omega, ha, decide_eq_true (show b % 64 ≠ 0 by omega)]
      rfl
    obtain ⟨_, _, _, h4⟩ := rno_no f hb hs
    rw [h4, show b - 1 = a by omega]
    exact cnx_rf _ _
  · have hxa : a % 64 < 64 := Nat.mod_lt _ (by decide)
    have hxb : b % 64 < 64 := Nat.mod_lt _ (by decide)
    have ea : a = 64 * (a / 64) + a % 64 := by omega
    have eb : b = 64 * (b / 64) + b % 64 := by omega
    have ra := rno_eq f (y := a / 64) hxa ha
    have rb := rno_eq f (y := b / 64) hxb hb
    rw [← ea] at ra
    rw [← eb] at rb
    generalize hc : f (b / 64 - 1) &&& xwi (xrn (f (b / 64)) (rix (f (b / 64)) (b % 64))) d = c
    have ey : b / 64 - 1 = a / 64 := by omega
    have hca : bb c (a % 64) = true := by
      rw [← hc, bb_and, ey]
      unfold qs at ha
      rw [ha, Bool.true_and]
      unfold xwi
      rw [bb_ofB _ hxa, dlb_iff]
      exact ⟨b % 64, hxb, by rw [bb_xrn _ _ hxb]; unfold qs at hb; rw [hb]; simp, by omega, by omega⟩
    have hcs : ∀ p, p < 64 → bb c p = true → bb (f (a / 64)) p = true := fun p hp q => by
      rw [← hc, bb_and, ey] at q
      exact (by simpa using q : _ ∧ _).1
    -- the start of the contact's run
    have st : ∀ n x, x = n → x < 64 → bb c x = true → ∃ p, p ≤ x ∧ bb (xst c) p = true ∧ rix (f (a / 64)) p = rix (f (a / 64)) x := by
      intro n
      induction n with
      | zero =>
        intro x e hx hb
        exact ⟨x, Nat.le_refl _, by rw [bb_xst c hx, hb, e]; rfl, rfl⟩
      | succ n ih =>
        intro x e hx hb
        cases hq : bb c (x - 1) with
        | false => exact ⟨x, Nat.le_refl _, by rw [bb_xst c hx, hb, hq]; simp, rfl⟩
        | true =>
          obtain ⟨p, p1, p2, p3⟩ := ih (x - 1) (by omega) (by omega) hq
          refine ⟨p, by omega, p2, p3.trans ?_⟩
          refine (rix_run _ 1 x (by omega) hx (fun j j1 j2 => ?_)).symm
          rcases Nat.lt_or_ge j x with q | q
          · rw [show j = x - 1 by omega]
            exact hcs _ (by omega) hq
          · rw [show j = x by omega]
            exact hcs _ hx hb
    obtain ⟨p, p1, p2, p3⟩ := st _ _ rfl hxa hca
    refine cnx_of ⟨b / 64, rix (f (b / 64)) (b % 64), p, Or.inl (by omega), by omega, by omega, rix_lt _ hxb hb, rb, by omega, by rw [hc]; exact p2, ?_⟩
    rw [ra, ey, p3]
theorem jpq_sq (f : Nat → Int64) (d : Nat) {u v : Nat} (h : jpq f d 64 0 u v) : ∃ a b, adj f d a b ∧ rno f a = u ∧ rno f b = v := by
  obtain ⟨y, j, p, _, h1, h2, h3, rfl, hp, hst, rfl⟩ := h
  rw [bb_xst _ hp, Bool.and_eq_true, bb_and, Bool.and_eq_true] at hst
  obtain ⟨⟨hc1, hc2⟩, _⟩ := hst
  unfold xwi at hc2
  rw [bb_ofB _ hp, dlb_iff] at hc2
  obtain ⟨q, hq, q1, q2, q3⟩ := hc2
  rw [bb_xrn _ _ hq, Bool.and_eq_true, decide_eq_true_eq] at q1
  refine ⟨64 * (y - 1) + p, 64 * y + q, ⟨by rw [qs_at f hp]; exact hc1, by rw [qs_at f hq]; exact q1.1, by omega, by omega, Or.inr ?_⟩, rno_eq f hp hc1, by rw [rno_eq f hq q1.1, q1.2]⟩
  rw [(div_row hp).1, (div_row hp).2, (div_row hq).1, (div_row hq).2]
  exact ⟨by omega, q2, q3⟩
theorem con_iff (f : Nat → Int64) (d : Nat) {a b : Nat} (ha : a < 4096) (hb : b < 4096) (qa : qs f a = true) (qb : qs f b = true) : cnx (adj f d) a b ↔ cnx (jpq f d 64 0) (rno f a) (rno f b) := by
  constructor
  · intro h
    exact cnx_ind h (fun a b => cnx (jpq f d 64 0) (rno f a) (rno f b)) (fun _ => cnx_rf _ _) (fun _ _ => cnx_sy) (fun _ _ _ => cnx_tr) (fun _ _ => jpq_of f d)
  · intro h
    have := cnx_ind h (fun u v => u = v ∨ ∃ a b, a < 4096 ∧ b < 4096 ∧ qs f a = true ∧ qs f b = true ∧ rno f a = u ∧ rno f b = v ∧ cnx (adj f d) a b) (fun _ => Or.inl rfl)
      (fun u v q => by
        rcases q with e | ⟨a, b, h1, h2, h3, h4, h5, h6, h7⟩
        · exact Or.inl e.symm
        · exact Or.inr ⟨b, a, h2, h1, h4, h3, h6, h5, cnx_sy h7⟩)
      (fun u v w q r => by
        rcases q with e | ⟨a, b, h1, h2, h3, h4, h5, h6, h7⟩
        · rw [e]; exact r
        · rcases r with e | ⟨a', b', h1', h2', h3', h4', h5', h6', h7'⟩
          · rw [← e]; exact Or.inr ⟨a, b, h1, h2, h3, h4, h5, h6, h7⟩
          · exact Or.inr ⟨a, b', h1, h2', h3, h4', h5, h6', cnx_tr h7 (cnx_tr (run_con f d h2 h1' h4 h3' (h6.trans h5'.symm)) h7')⟩)
      (fun u v q => by
        obtain ⟨a, b, h1, h2, h3⟩ := jpq_sq f d q
        exact Or.inr ⟨a, b, h1.2.2.1, h1.2.2.2.1, h1.1, h1.2.1, h2, h3, cnx_of h1⟩)
    rcases this with e | ⟨a', b', h1, h2, h3, h4, h5, h6, h7⟩
    · exact run_con f d ha hb qa qb e
    · exact cnx_tr (run_con f d ha h1 qa h3 h5.symm) (cnx_tr h7 (run_con f d h2 hb h4 qb h6))
/-- fi marks the first squares of what hangs together -/
def isF (f : Nat → Int64) (d : Nat) (fi : Nat → Bool) : Prop := ∀ k, k < 4096 → (fi k = true ↔ qs f k = true ∧ ∀ j, j < k → qs f j = true → ¬ cnx (adj f d) j k)
theorem isF_ex (f : Nat → Int64) (d : Nat) : ∃ fi, isF f d fi := ⟨fun k => @decide (qs f k = true ∧ ∀ j, j < k → qs f j = true → ¬ cnx (adj f d) j k) (Classical.propDecidable _), fun _ _ => @decide_eq_true_iff _ (Classical.propDecidable _)⟩
theorem isF_uq {f : Nat → Int64} {d : Nat} {fi fj : Nat → Bool} (h : isF f d fi) (h' : isF f d fj) {k : Nat} (hk : k < 4096) : fi k = fj k := bool_ext ((h k hk).trans (h' k hk).symm)
theorem isF_cn {f : Nat → Int64} {d : Nat} {fi fj : Nat → Bool} (h : isF f d fi) (h' : isF f d fj) {k : Nat} (hk : k ≤ 4096) : cn fi k = cn fj k := cn_congr k (fun i hi => isF_uq h h' (by omega))
theorem isF_first {f : Nat → Int64} {d : Nat} {fi : Nat → Bool} (h : isF f d fi) : ∀ n k, k = n → k < 4096 → qs f k = true → ∃ a, a ≤ k ∧ fi a = true ∧ cnx (adj f d) a k := by
  intro n
  induction n using Nat.strongRecOn with
  | ind n ih =>
    intro k e hk hq
    by_cases c : fi k = true
    · exact ⟨k, Nat.le_refl _, c, cnx_rf _ _⟩
    · have : ¬ ∀ j, j < k → qs f j = true → ¬ cnx (adj f d) j k := fun q => c ((h k hk).mpr ⟨hq, q⟩)
      obtain ⟨j, q⟩ := Classical.not_forall.mp this
      obtain ⟨q1, q⟩ := Classical.not_imp.mp q
      obtain ⟨q2, q⟩ := Classical.not_imp.mp q
      obtain ⟨a, a1, a2, a3⟩ := ih j (by omega) j rfl (by omega) q2
      exact ⟨a, by omega, a2, cnx_tr a3 (Classical.not_not.mp q)⟩
theorem isF_one {f : Nat → Int64} {d : Nat} {fi : Nat → Bool} (h : isF f d fi) {a b : Nat} (ha : a < 4096) (hb : b < 4096) (h1 : fi a = true) (h2 : fi b = true) (hc : cnx (adj f d) a b) : a = b := by
  rcases Nat.lt_trichotomy a b with q | q | q
  · exact absurd hc (((h b hb).mp h2).2 a q ((h a ha).mp h1).1)
  · exact q
  · exact absurd (cnx_sy hc) (((h a ha).mp h1).2 b q ((h b hb).mp h2).1)
theorem isF_le {f : Nat → Int64} {d : Nat} {fi : Nat → Bool} (h : isF f d fi) {a k : Nat} (ha : a < 4096) (hk : k < 4096) (h1 : fi a = true) (hq : qs f k = true) (hc : cnx (adj f d) a k) : a ≤ k := by
  obtain ⟨b, b1, b2, b3⟩ := isF_first h k k rfl hk hq
  have := isF_one h ha (by omega) h1 b2 (cnx_tr hc (cnx_sy b3))
  omega
/-- square k is of shape number t -/
def ofT (f : Nat → Int64) (fi : Nat → Bool) (k t : Nat) : Prop := ∃ a, a < 4096 ∧ fi a = true ∧ cnx (adj f 0) a k ∧ cn fi a = t
/-- the heads of runs and the first squares -/
theorem head_first {f : Nat → Int64} {d : Nat} {g : Nat → Nat} (h1 : ∀ r, r < rs f 64 → g r ≤ r ∧ g (g r) = g r) (h2 : okc (rs f 64) g (jpq f d 64 0)) : isF f d (fun k => sts f k && hdb g (cn (sts f) k)) := by
  intro k hk
  constructor
  · intro h
    rw [Bool.and_eq_true] at h
    have hq : qs f k = true := by
      have := h.1
      rw [sts_eq, Bool.and_eq_true] at this
      exact this.1
    refine ⟨hq, fun j hj qj hc => ?_⟩
    have hr := (con_iff f d (by omega) hk qj hq).mp hc
    have hl := rno_lt f hk hq
    have hlj := rno_lt f (by omega) qj
    have e := (h2.2 _ _ hlj hl).mpr hr
    have e2 : g (rno f k) = rno f k := by
      have := h.2
      unfold hdb at this
      rw [← rno_st f h.1] at this
      exact of_decide_eq_true this
    have e3 := (h1 _ hlj).1
    rw [e, e2] at e3
    have e4 : rno f k = cn (sts f) k := rno_st f h.1
    have e5 : cn (sts f) (j + 1) ≤ cn (sts f) k := cn_mono _ (by omega)
    have e6 := rno_pos f qj
    unfold rno at e3 e4
    omega
  · rintro ⟨hq, hf⟩
    have hs : sts f k = true := by
      cases h : sts f k with
      | true => rfl
      | false =>
        exfalso
        obtain ⟨a1, a2, a3, a4⟩ := rno_no f hq h
        exact hf (k - 1) (by omega) a3 (cnx_of ⟨a3, hq, by omega, hk, Or.inl ⟨by omega, by omega⟩⟩)
    show (sts f k && hdb g (cn (sts f) k)) = true
    rw [hs, Bool.true_and]
    have hl := rno_lt f hk hq
    obtain ⟨q1, q2⟩ := h1 _ hl
    unfold hdb
    refine decide_eq_true ?_
    rw [← rno_st f hs]
    rcases Nat.lt_or_ge (g (rno f k)) (rno f k) with c | c
    · exfalso
      -- the head's first square
      have c2 : g (rno f k) < cn (sts f) k := by rw [rno_st f hs] at c ⊢; exact c
      obtain ⟨z, z1, z2, z3⟩ := cn_inv c2
      have zq : qs f z = true := by
        have := z2
        rw [sts_eq, Bool.and_eq_true] at this
        exact this.1
      refine hf z z1 zq ((con_iff f d (by omega) hk zq hq).mpr ?_)
      refine (h2.2 _ _ (rno_lt f (by omega) zq) hl).mp ?_
      rw [rno_st f z2, z3]
      exact q2
    · omega
theorem head_of {f : Nat → Int64} {d : Nat} {g : Nat → Nat} (h1 : ∀ r, r < rs f 64 → g r ≤ r ∧ g (g r) = g r) (h2 : okc (rs f 64) g (jpq f d 64 0)) {fi : Nat → Bool} (hF : isF f d fi) {a k : Nat} (ha : a < 4096) (hk : k < 4096) (hq : qs f k = true) (h3 : fi a = true) (hc : cnx (adj f d) a k) : g (rno f k) = rno f a ∧ sts f a = true ∧ g (rno f a) = rno f a := by
  have qa := ((hF a ha).mp h3).1
  have hb := (isF_uq hF (head_first h1 h2) ha).symm.trans h3
  rw [Bool.and_eq_true] at hb
  have e2 : g (rno f a) = rno f a := by
    have := hb.2
    unfold hdb at this
    rw [← rno_st f hb.1] at this
    exact of_decide_eq_true this
  have := (h2.2 _ _ (rno_lt f ha qa) (rno_lt f hk hq)).mpr ((con_iff f d ha hk qa hq).mp hc)
  exact ⟨by rw [← this, e2], hb.1, e2⟩
theorem head_cn {f : Nat → Int64} {d : Nat} {g : Nat → Nat} (h1 : ∀ r, r < rs f 64 → g r ≤ r ∧ g (g r) = g r) (h2 : okc (rs f 64) g (jpq f d 64 0)) {fi : Nat → Bool} (hF : isF f d fi) {k : Nat} (hk : k ≤ 4096) : cn fi k = cn (hdb g) (cn (sts f) k) := by
  rw [isF_cn hF (head_first h1 h2) hk]
  exact cn_comp k (fun _ _ => rfl)
theorem head_all {f : Nat → Int64} {d : Nat} {g : Nat → Nat} (h1 : ∀ r, r < rs f 64 → g r ≤ r ∧ g (g r) = g r) (h2 : okc (rs f 64) g (jpq f d 64 0)) {fi : Nat → Bool} (hF : isF f d fi) : cn (hdb g) (rs f 64) = cn fi 4096 := by
  rw [head_cn h1 h2 hF (Nat.le_refl _), show 4096 = 64 * 64 by decide, cn_row]
/-- the class's numbers of shapes -/
theorem head_no {f : Nat → Int64} {g o : Nat → Nat} (h1 : ∀ r, r < rs f 64 → g r ≤ r ∧ g (g r) = g r) (h2 : okc (rs f 64) g (jpq f 0 64 0)) (h3 : ∀ r, r < rs f 64 → o r = cn (hdb g) (g r)) {fi : Nat → Bool} (hF : isF f 0 fi) {k t : Nat} (hk : k < 4096) (hq : qs f k = true) : o (rno f k) = t ↔ ofT f fi k t := by
  have key : ∀ a, a < 4096 → fi a = true → cnx (adj f 0) a k → o (rno f k) = cn fi a := fun a ha h4 hc => by
    obtain ⟨e1, e2, e3⟩ := head_of h1 h2 hF ha hk hq h4 hc
    rw [h3 _ (rno_lt f hk hq), e1, rno_st f e2, head_cn h1 h2 hF (by omega)]
  constructor
  · intro h
    obtain ⟨a, a1, a2, a3⟩ := isF_first hF k k rfl hk hq
    exact ⟨a, by omega, a2, a3, by rw [← key a (by omega) a2 a3]; exact h⟩
  · rintro ⟨a, a1, a2, a3, a4⟩
    rw [key a a1 a2 a3]
    exact a4
