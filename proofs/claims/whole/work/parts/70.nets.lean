/-! nets: what join's loops keep -/
def dgP (k d q : Nat) : Prop := match d with
  | 0 => q = k + 65 ∧ k % 64 ≠ 63
  | _ => q = k + 63 ∧ k % 64 ≠ 0
def dgX (k d : Nat) : Int32 := nI (k % 64) + (match d with | 0 => 1 | _ => -1)
def dgY (k : Nat) : Int32 := nI (k / 64) + 1
theorem dg_on (f : Nat → Int64) {k d : Nat} (hk : k < 4096) (hd : d < 2) : (on1 f (dgX k d) (dgY k) = true ∧ ∃ q, q < 4096 ∧ dgP k d q ∧ qs f q = true ∧ nI 64 * dgY k + dgX k d = nI q) ∨ (on1 f (dgX k d) (dgY k) = false ∧ ∀ q, q < 4096 → dgP k d q → qs f q = false) := by
  have hy2 : k / 64 < 64 := by omega
  by_cases c0 : k / 64 = 63
  · refine Or.inr ⟨on1_no (Or.inr (Or.inr (Or.inr (by show 64 ≤ nI (k / 64) + 1; rw [c0]; exact b64_n)))), fun q h1 h2 => ?_⟩
    rcases (show d = 0 ∨ d = 1 by omega) with e | e
    · subst e
      have := h2.1
      omega
    · subst e
      have h3 := h2.1
      have h4 := h2.2
      omega
  · have good : ∀ x q, x < 64 → q = 64 * (k / 64 + 1) + x → dgX k d = nI x → dgP k d q → (∀ q', dgP k d q' → q' = q) → (on1 f (dgX k d) (dgY k) = true ∧ ∃ q, q < 4096 ∧ dgP k d q ∧ qs f q = true ∧ nI 64 * dgY k + dgX k d = nI q) ∨ (on1 f (dgX k d) (dgY k) = false ∧ ∀ q, q < 4096 → dgP k d q → qs f q = false) := by
      intro x q h1 e ex hq hu
      have ey : dgY k = nI (k / 64 + 1) := nI_1 _
      have ho : on1 f (dgX k d) (dgY k) = qs f q := by rw [ex, ey, on1_in f h1 (by omega), e, qs_at f h1]
      cases hb : qs f q with
      | true => exact Or.inl ⟨ho.trans hb, q, by omega, hq, hb, by rw [ex, ey, pk_mul, nI_add, e]⟩
      | false => exact Or.inr ⟨ho.trans hb, fun q' _ hq' => by rw [hu q' hq']; exact hb⟩
    rcases (show d = 0 ∨ d = 1 by omega) with e | e
    · subst e
      by_cases c : k % 64 = 63
      · exact Or.inr ⟨on1_no (Or.inr (Or.inl (by show 64 ≤ nI (k % 64) + 1; rw [c]; exact b64_n))), fun q _ hq => absurd c hq.2⟩
      · exact good (k % 64 + 1) (k + 65) (by omega) (by omega) (nI_1 _) ⟨rfl, c⟩ (fun q' hq' => hq'.1)
    · subst e
      by_cases c : k % 64 = 0
      · exact Or.inr ⟨on1_no (Or.inl (by show nI (k % 64) + -1 < 0; rw [c]; exact m1_n)), fun q _ hq => absurd c hq.2⟩
      · exact good (k % 64 - 1) (k + 63) (by omega) (by omega) (pl_m (by omega)) ⟨rfl, c⟩ (fun q' hq' => hq'.1)
theorem dg_adj {f : Nat → Int64} {k d q : Nat} (hk : k < 4096) (hq : q < 4096) (h1 : qs f k = true) (h2 : qs f q = true) (h : dgP k d q) : adj f 1 k q := by
  match d, h with
  | 0, h => exact ⟨h1, h2, hk, hq, Or.inr (by have := h.1; have := h.2; omega)⟩
  | n + 1, h => exact ⟨h1, h2, hk, hq, Or.inr (by have h3 : q = k + 63 := h.1; have h4 : k % 64 ≠ 0 := h.2; omega)⟩
theorem adj_dg {f : Nat → Int64} {a b : Nat} (h : adj f 1 a b) : adj f 0 a b ∨ dgP a 0 b ∨ dgP a 1 b := by
  obtain ⟨h1, h2, ha, hb, h | h⟩ := h
  · exact Or.inl ⟨h1, h2, ha, hb, Or.inl h⟩
  · rcases (show b = a + 64 ∨ (b = a + 65 ∧ a % 64 ≠ 63) ∨ (b = a + 63 ∧ a % 64 ≠ 0) by omega) with c | c | c
    · exact Or.inl ⟨h1, h2, ha, hb, Or.inr (by omega)⟩
    · exact Or.inr (Or.inl c)
    · exact Or.inr (Or.inr c)
/-- each shape's number leads to a shape of its net, not a later one -/
def ntI (f : Nat → Int64) (fi : Nat → Bool) (N : Nat → Nat) : Prop := ∀ b, b < 4096 → fi b = true → ∃ b', b' ≤ b ∧ fi b' = true ∧ cnx (adj f 1) b' b ∧ N (cn fi b) = cn fi b'
/-- joined so far: pairs before (k, d) -/
def ntJ (f : Nat → Int64) (g : Nat → Int32) (N : Nat → Nat) (k d : Nat) : Prop := ∀ k' d' q, (k' < k ∨ (k' = k ∧ d' < d)) → d' < 2 → k' < 4096 → q < 4096 → qs f k' = true → qs f q = true → dgP k' d' q → N (g k').toNatClampNeg = N (g q).toNatClampNeg
theorem lb_cl {f : Nat → Int64} {fi : Nat → Bool} {g : Nat → Int32} (hg : lbS f fi g) {j : Nat} (hj : j < 4096) (hq : qs f j = true) : ∃ b, b < 4096 ∧ fi b = true ∧ cnx (adj f 0) b j ∧ g j = nI (cn fi b) ∧ (g j).toNatClampNeg = cn fi b ∧ cn fi b < cn fi 4096 := by
  have hb := cn_4096 fi
  rcases hg j hj with ⟨c1, _⟩ | ⟨_, t, t0, ⟨a, a1, a2, a3, a4⟩, c3⟩
  · rw [hq] at c1
    cases c1
  · subst a4
    exact ⟨a, a1, a2, a3, c3, by rw [c3, nI_clamp (by omega)], t0⟩
theorem nt_end {f : Nat → Int64} {fi fj : Nat → Bool} {g : Nat → Int32} {N : Nat → Nat} (hF : isF f 0 fi) (hN : isF f 1 fj) (hg : lbS f fi g) (h1 : ntI f fi N) (h2 : ntJ f g N 4096 0) {b a : Nat} (hb : b < 4096) (ha : a < 4096) (b1 : fi b = true) (a1 : fj a = true) (hc : cnx (adj f 1) a b) : N (cn fi b) = cn fi a := by
  have key := cnx_ind hc (fun x y => N (g x).toNatClampNeg = N (g y).toNatClampNeg) (fun _ => rfl) (fun _ _ e => e.symm) (fun _ _ _ e1 e2 => e1.trans e2) (fun x y hxy => by
    rcases adj_dg hxy with c | c | c
    · obtain ⟨p, p1, p2, p3, p4, p5, p6⟩ := lb_cl hg c.2.2.1 c.1
      obtain ⟨q, q1, q2, q3, q4, q5, q6⟩ := lb_cl hg c.2.2.2.1 c.2.1
      rw [p5, q5, isF_one hF p1 q1 p2 q2 (cnx_tr p3 (cnx_tr (cnx_of c) (cnx_sy q3)))]
    · exact h2 x 0 y (Or.inl hxy.2.2.1) (by decide) hxy.2.2.1 hxy.2.2.2.1 hxy.1 hxy.2.1 c
    · exact h2 x 1 y (Or.inl hxy.2.2.1) (by decide) hxy.2.2.1 hxy.2.2.2.1 hxy.1 hxy.2.1 c)
  have gl : ∀ z, z < 4096 → fi z = true → (g z).toNatClampNeg = cn fi z := fun z hz h => by
    obtain ⟨p, p1, p2, p3, p4, p5, p6⟩ := lb_cl hg hz ((hF z hz).mp h).1
    rw [p5, isF_one hF p1 hz p2 h p3]
  have fa := isF_01 hF hN ha a1
  rw [gl a ha fa, gl b hb b1] at key
  rw [← key]
  obtain ⟨a', c1, c2, c3, c4⟩ := h1 a ha fa
  rw [c4]
  rcases Nat.lt_or_ge a' a with q | q
  · exact absurd c3 (((hN a ha).mp a1).2 a' q ((hF a' (by omega)).mp c2).1)
  · rw [show a' = a by omega]
theorem nt_0 {f : Nat → Int64} {fi : Nat → Bool} : ntI f fi (fun j => j) := fun b _ h => ⟨b, Nat.le_refl _, h, cnx_rf _ _, rfl⟩
theorem cn_le_inv {fi : Nat → Bool} {a b : Nat} (ha : fi a = true) (hb : fi b = true) (h : cn fi a ≤ cn fi b) : a ≤ b := by
  rcases Nat.lt_or_ge b a with q | q
  · have := cn_in q hb
    omega
  · exact q
theorem nt_step {f : Nat → Int64} {fi : Nat → Bool} {N : Nat → Nat} (hF : isF f 0 fi) (h1 : ntI f fi N) {b1 b2 : Nat} (hb1 : b1 < 4096) (hb2 : b2 < 4096) (f1 : fi b1 = true) (f2 : fi b2 = true) (hc : cnx (adj f 1) b1 b2) : ntI f fi (updN (updN N (cn fi b1) (min (N (cn fi b1)) (N (cn fi b2)))) (cn fi b2) (min (N (cn fi b1)) (N (cn fi b2)))) := by
  obtain ⟨c1, d1, d2, d3, d4⟩ := h1 b1 hb1 f1
  obtain ⟨c2, e1, e2, e3, e4⟩ := h1 b2 hb2 f2
  -- where the lesser one leads
  have low : ∃ c, fi c = true ∧ c ≤ b1 ∧ c ≤ b2 ∧ cnx (adj f 1) c b1 ∧ cnx (adj f 1) c b2 ∧ min (N (cn fi b1)) (N (cn fi b2)) = cn fi c := by
    rw [d4, e4]
    rcases Nat.le_total (cn fi c1) (cn fi c2) with q | q
    · have := cn_le_inv d2 e2 q
      exact ⟨c1, d2, d1, by omega, d3, cnx_tr d3 hc, by omega⟩
    · have := cn_le_inv e2 d2 q
      exact ⟨c2, e2, by omega, e1, cnx_tr e3 (cnx_sy hc), e3, by omega⟩
  obtain ⟨c, l1, l2, l3, l4, l5, l6⟩ := low
  rw [l6]
  intro b hb fb
  by_cases q2 : cn fi b = cn fi b2
  · have := cn_inj fb f2 q2
    subst this
    exact ⟨c, l3, l1, l5, updN_s _ _ _⟩
  · by_cases q1 : cn fi b = cn fi b1
    · have := cn_inj fb f1 q1
      subst this
      exact ⟨c, l2, l1, l4, by rw [updN_n _ _ q2, updN_s]⟩
    · rw [updN_n _ _ q2, updN_n _ _ q1]
      exact h1 b hb fb
theorem sm_updN {N : Nat → Nat} {k v : Nat} : ∀ n, k < n → sm (updN N k v) n + N k = sm N n + v
  | 0, h => absurd h (Nat.not_lt_zero _)
  | n + 1, h => by
    rw [sm_s, sm_s]
    rcases Nat.lt_or_ge k n with c | c
    · have := sm_updN (N := N) (v := v) n c
      rw [updN_n _ _ (show n ≠ k by omega)]
      omega
    · have e : k = n := by omega
      subst e
      rw [updN_s, sm_congr (q := N) k (fun y hy => updN_n N v (show y ≠ k by omega))]
      omega
theorem updN_self (N : Nat → Nat) (k : Nat) : updN N k (N k) = N := by
  funext j
  unfold updN
  by_cases e : j = k
  · rw [if_pos e, e]
  · rw [if_neg e]
/-- the sum falls where two differ -/
theorem sm_join {N : Nat → Nat} {a b n : Nat} (ha : a < n) (hb : b < n) (h : N a ≠ N b) : sm (updN (updN N a (min (N a) (N b))) b (min (N a) (N b))) n < sm N n := by
  have hab : b ≠ a := fun e => h (by rw [e])
  have h1 := sm_updN (N := N) (v := min (N a) (N b)) n ha
  have h2 := sm_updN (N := updN N a (min (N a) (N b))) (v := min (N a) (N b)) n hb
  rw [updN_n _ _ hab] at h2
  omega
theorem ntJ_s {f : Nat → Int64} {g : Nat → Int32} {N : Nat → Nat} {k d : Nat} (h : ntJ f g N k d) (hn : ∀ q, q < 4096 → qs f k = true → qs f q = true → dgP k d q → N (g k).toNatClampNeg = N (g q).toNatClampNeg) : ntJ f g N k (d + 1) := fun k' d' q h1 h2 h3 h4 h5 h6 h7 => by
  rcases h1 with c | ⟨c1, c2⟩
  · exact h k' d' q (Or.inl c) h2 h3 h4 h5 h6 h7
  · rcases Nat.lt_or_ge d' d with c | c
    · exact h k' d' q (Or.inr ⟨c1, c⟩) h2 h3 h4 h5 h6 h7
    · have e : d' = d := by omega
      subst e
      subst c1
      exact hn q h4 h5 h6 h7
theorem ntJ_row {f : Nat → Int64} {g : Nat → Int32} {N : Nat → Nat} {k : Nat} (h : ntJ f g N k 2) : ntJ f g N (k + 1) 0 := fun k' d' q h1 h2 h3 h4 h5 h6 h7 => by
  refine h k' d' q ?_ h2 h3 h4 h5 h6 h7
  omega
theorem ntJ_no {f : Nat → Int64} {g : Nat → Int32} {N : Nat → Nat} {k d : Nat} (h : ntJ f g N k d) (hq : qs f k = false) : ntJ f g N (k + 1) 0 := fun k' d' q h1 h2 h3 h4 h5 h6 h7 => by
  rcases Nat.lt_or_ge k' k with c | c
  · exact h k' d' q (Or.inl c) h2 h3 h4 h5 h6 h7
  · rw [show k' = k by omega, hq] at h5
    cases h5
def zf (n : Nat) (N : Nat → Nat) (w : Nat → Int32) (j : Nat) : Int32 := if j < n then nI (N j) else w j
theorem zf_upd {n : Nat} (N : Nat → Nat) (w : Nat → Int32) {s v : Nat} (hs : s < n) : upd (zf n N w) s (nI v) = zf n (updN N s v) w := by
  funext j
  unfold upd zf updN
  by_cases e : j = s
  · rw [if_pos e, if_pos (by omega), if_pos e]
  · rw [if_neg e, if_neg e]
theorem zf_at {n : Nat} (N : Nat → Nat) (w : Nat → Int32) {s : Nat} (hs : s < n) : zf n N w s = nI (N s) := if_pos hs
