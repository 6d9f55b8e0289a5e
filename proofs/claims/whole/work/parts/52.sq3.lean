/-! marks, what is gathered, nets -/
def mkT (f : Nat → Int64) (fi : Nat → Bool) (e : Nat → Int64) (t : Nat) : Prop := ∃ k, k < 4096 ∧ qs f k = true ∧ qs e k = true ∧ ofT f fi k t
theorem ne_0 {x : Int64} : ¬ x = 0 ↔ ∃ p, p < 64 ∧ bb x p = true := by
  constructor
  · intro h
    refine Classical.byContradiction (fun q => h (bb_ext (fun i hi => ?_)))
    rw [bb_0]
    cases hb : bb x i with
    | false => rfl
    | true => exact absurd ⟨i, hi, hb⟩ q
  · rintro ⟨p, hp, hb⟩ rfl
    rw [bb_0] at hb
    cases hb
theorem sq_of {k : Nat} (hk : k < 4096) : ∃ y x, y < 64 ∧ x < 64 ∧ k = 64 * y + x := ⟨k / 64, k % 64, by omega, Nat.mod_lt _ (by decide), by omega⟩
theorem mtQ_sq {f e : Nat → Int64} {g o : Nat → Nat} (h1 : ∀ r, r < rs f 64 → g r ≤ r ∧ g (g r) = g r) (h2 : okc (rs f 64) g (jpq f 0 64 0)) (h3 : ∀ r, r < rs f 64 → o r = cn (hdb g) (g r)) {fi : Nat → Bool} (hF : isF f 0 fi) (t : Nat) : mtQ f e o 64 0 t ↔ mkT f fi e t := by
  constructor
  · rintro ⟨y, j, _, hy, hj, ho, hn⟩
    obtain ⟨p, hp, hb⟩ := ne_0.mp hn
    rw [bb_and, bb_xrn _ _ hp, Bool.and_eq_true, Bool.and_eq_true, decide_eq_true_eq] at hb
    obtain ⟨⟨b1, b2⟩, b3⟩ := hb
    have hq : qs f (64 * y + p) = true := by rw [qs_at f hp]; exact b1
    refine ⟨64 * y + p, by omega, hq, by rw [qs_at e hp]; exact b3, (head_no h1 h2 h3 hF (by omega) hq).mp ?_⟩
    rw [rno_eq f hp b1, b2]
    exact ho
  · rintro ⟨k, hk, hq, he, ht⟩
    obtain ⟨y, x, hy, hx, rfl⟩ := sq_of hk
    rw [qs_at e hx] at he
    have ho := (head_no h1 h2 h3 hF hk hq).mpr ht
    rw [qs_at f hx] at hq
    rw [rno_eq f hx hq] at ho
    refine ⟨y, rix (f y) x, Or.inl hy, hy, rix_lt _ hx hq, ho, ne_0.mpr ⟨x, hx, ?_⟩⟩
    rw [bb_and, bb_xrn _ _ hx, hq, he]
    simp
theorem bb_gat (f : Nat → Int64) (c : Nat → Bool) {y x : Nat} (hx : x < 64) : bb (orj (fun j => c (rs f y + j)) (xrn (f y)) (nr f y)) x = (bb (f y) x && c (rno f (64 * y + x))) := by
  refine bool_ext ?_
  rw [bb_orj, Bool.and_eq_true]
  constructor
  · rintro ⟨j, j1, j2, j3⟩
    rw [bb_xrn _ _ hx, Bool.and_eq_true, decide_eq_true_eq] at j3
    exact ⟨j3.1, by rw [rno_eq f hx j3.1, j3.2]; exact j2⟩
  · rintro ⟨a1, a2⟩
    rw [rno_eq f hx a1] at a2
    exact ⟨rix (f y) x, rix_lt _ hx a1, a2, by rw [bb_xrn _ _ hx, a1]; simp⟩
theorem ofT_uq {f : Nat → Int64} {fi : Nat → Bool} (hF : isF f 0 fi) {k t u : Nat} (h1 : ofT f fi k t) (h2 : ofT f fi k u) : t = u := by
  obtain ⟨a, a1, a2, a3, a4⟩ := h1
  obtain ⟨b, b1, b2, b3, b4⟩ := h2
  have := isF_one hF a1 b1 a2 b2 (cnx_tr a3 (cnx_sy b3))
  subst this
  exact a4.symm.trans b4
theorem ofT_ex {f : Nat → Int64} {fi : Nat → Bool} (hF : isF f 0 fi) {k : Nat} (hk : k < 4096) (hq : qs f k = true) : ∃ t, t < cn fi 4096 ∧ ofT f fi k t := by
  obtain ⟨a, a1, a2, a3⟩ := isF_first hF k k rfl hk hq
  exact ⟨cn fi a, cn_in (by omega) a2, a, by omega, a2, a3, rfl⟩
theorem ofT_con {f : Nat → Int64} {fi : Nat → Bool} {a k t : Nat} (ha : a < 4096) (h1 : fi a = true) (h2 : cn fi a = t) : ofT f fi k t ↔ cnx (adj f 0) a k := by
  constructor
  · rintro ⟨b, b1, b2, b3, b4⟩
    have := cn_inj h1 b2 (h2.trans b4.symm)
    subst this
    exact b3
  · intro h
    exact ⟨a, ha, h1, h, h2⟩
theorem adj_01 {f : Nat → Int64} {a b : Nat} (h : adj f 0 a b) : adj f 1 a b := ⟨h.1, h.2.1, h.2.2.1, h.2.2.2.1, h.2.2.2.2.elim Or.inl (fun q => Or.inr ⟨q.1, by omega, by omega⟩)⟩
theorem con_01 {f : Nat → Int64} {a b : Nat} (h : cnx (adj f 0) a b) : cnx (adj f 1) a b := cnx_mono (fun _ _ q => cnx_of (adj_01 q)) h
theorem isF_01 {f : Nat → Int64} {fi fj : Nat → Bool} (hF : isF f 0 fi) (hN : isF f 1 fj) {a : Nat} (ha : a < 4096) (h : fj a = true) : fi a = true :=
  (hF a ha).mpr ⟨((hN a ha).mp h).1, fun j hj qj hc => ((hN a ha).mp h).2 j hj qj (con_01 hc)⟩
/-- netOf: the run that the class finds first, and its net's head -/
theorem net_run {f : Nat → Int64} {g o gn : Nat → Nat} (h1 : ∀ r, r < rs f 64 → g r ≤ r ∧ g (g r) = g r) (h2 : okc (rs f 64) g (jpq f 0 64 0)) (h3 : ∀ r, r < rs f 64 → o r = cn (hdb g) (g r)) (n1 : ∀ r, r < rs f 64 → gn r ≤ r ∧ gn (gn r) = gn r) (n2 : okc (rs f 64) gn (jpq f 1 64 0)) {fi fj : Nat → Bool} (hF : isF f 0 fi) (hN : isF f 1 fj) {k a : Nat} (hk : k < 4096) (ha : a < 4096) (k1 : fi k = true) (a1 : fj a = true) (hc : cnx (adj f 1) a k) :
    rno f k < rs f 64 ∧ o (rno f k) = cn fi k ∧ (∀ r, r < rno f k → o r ≠ cn fi k) ∧ o (gn (rno f k)) = cn fi a := by
  have qk := ((hF k hk).mp k1).1
  have qa := ((hN a ha).mp a1).1
  have hl := rno_lt f hk qk
  refine ⟨hl, (head_no h1 h2 h3 hF hk qk).mpr ⟨k, hk, k1, cnx_rf _ _, rfl⟩, fun r hr e => ?_, ?_⟩
  · have hs : sts f k = true := (head_of h1 h2 hF hk hk qk k1 (cnx_rf _ _)).2.1
    rw [rno_st f hs] at hr
    obtain ⟨z, z1, z2, z3⟩ := cn_inv hr
    have zq : qs f z = true := by
      have := z2
      rw [sts_eq, Bool.and_eq_true] at this
      exact this.1
    have e2 : o (rno f z) = cn fi k := by rw [rno_st f z2, z3]; exact e
    have e3 := (head_no h1 h2 h3 hF (by omega) zq).mp e2
    have e4 := (ofT_con hk k1 rfl).mp e3
    have := isF_le hF hk (by omega) k1 zq e4
    omega
  · rw [(head_of n1 n2 hN ha hk qk a1 hc).1]
    exact (head_no h1 h2 h3 hF ha qa).mpr ⟨a, ha, isF_01 hF hN ha a1, cnx_rf _ _, rfl⟩
