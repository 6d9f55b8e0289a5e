/-! the flood: what label's loops keep -/
def nbP (p dd q : Nat) : Prop := match dd with
  | 0 => q = p + 1 ∧ p % 64 ≠ 63
  | 1 => q + 1 = p ∧ p % 64 ≠ 0
  | 2 => q = p + 64
  | _ => q + 64 = p
def nbX (p dd : Nat) : Int32 := nI (p % 64) + (match dd with | 0 => 1 | 1 => -1 | _ => 0)
def nbY (p dd : Nat) : Int32 := nI (p / 64) + (match dd with | 2 => 1 | 3 => -1 | _ => 0)
theorem pl_0 (a : Nat) : nI a + 0 = nI a := nI_add a 0
theorem pl_m {a : Nat} (h : 0 < a) : nI a + -1 = nI (a - 1) := by
  have := pk_m1 (a - 1)
  rw [show a - 1 + 1 = a by omega] at this
  exact this
theorem m1_n : nI 0 + -1 < 0 := by decide
theorem b64_n : (64 : Int32) ≤ nI 63 + 1 := by decide
theorem nb_on (f : Nat → Int64) {p dd : Nat} (hp : p < 4096) (hd : dd < 4) : (on1 f (nbX p dd) (nbY p dd) = true ∧ ∃ q, q < 4096 ∧ nbP p dd q ∧ qs f q = true ∧ nI 64 * nbY p dd + nbX p dd = nI q) ∨ (on1 f (nbX p dd) (nbY p dd) = false ∧ ∀ q, q < 4096 → nbP p dd q → qs f q = false) := by
  have hx2 : p % 64 < 64 := Nat.mod_lt _ (by decide)
  have hy2 : p / 64 < 64 := by omega
  have good : ∀ x y q, x < 64 → y < 64 → q = 64 * y + x → nbX p dd = nI x → nbY p dd = nI y → nbP p dd q → (∀ q', nbP p dd q' → q' = q) → (on1 f (nbX p dd) (nbY p dd) = true ∧ ∃ q, q < 4096 ∧ nbP p dd q ∧ qs f q = true ∧ nI 64 * nbY p dd + nbX p dd = nI q) ∨ (on1 f (nbX p dd) (nbY p dd) = false ∧ ∀ q, q < 4096 → nbP p dd q → qs f q = false) := by
    intro x y q h1 h2 e ex ey hq hu
    have ho : on1 f (nbX p dd) (nbY p dd) = qs f q := by rw [ex, ey, on1_in f h1 h2, e, qs_at f h1]
    cases hb : qs f q with
    | true => exact Or.inl ⟨ho.trans hb, q, by omega, hq, hb, by rw [ex, ey, pk_mul, nI_add, e]⟩
    | false => exact Or.inr ⟨ho.trans hb, fun q' _ hq' => by rw [hu q' hq']; exact hb⟩
  have hdd : dd = 0 ∨ dd = 1 ∨ dd = 2 ∨ dd = 3 := by omega
  rcases hdd with e | e | e | e
  · subst e
    by_cases c : p % 64 = 63
    · exact Or.inr ⟨on1_no (Or.inr (Or.inl (by show 64 ≤ nI (p % 64) + 1; rw [c]; exact b64_n))), fun q _ hq => absurd c hq.2⟩
    · exact good (p % 64 + 1) (p / 64) (p + 1) (by omega) hy2 (by omega) (nI_1 _) (pl_0 _) ⟨rfl, c⟩ (fun q' hq' => hq'.1)
  · subst e
    by_cases c : p % 64 = 0
    · exact Or.inr ⟨on1_no (Or.inl (by show nI (p % 64) + -1 < 0; rw [c]; exact m1_n)), fun q _ hq => absurd c hq.2⟩
    · exact good (p % 64 - 1) (p / 64) (p - 1) (by omega) hy2 (by omega) (pl_m (by omega)) (pl_0 _) ⟨by omega, c⟩ (fun q' hq' => by have := hq'.1; omega)
  · subst e
    by_cases c : p / 64 = 63
    · exact Or.inr ⟨on1_no (Or.inr (Or.inr (Or.inr (by show 64 ≤ nI (p / 64) + 1; rw [c]; exact b64_n)))), fun q h2 hq => by have : q = p + 64 := hq; omega⟩
    · exact good (p % 64) (p / 64 + 1) (p + 64) hx2 (by omega) (by omega) (pl_0 _) (nI_1 _) rfl (fun q' hq' => hq')
  · subst e
    by_cases c : p / 64 = 0
    · exact Or.inr ⟨on1_no (Or.inr (Or.inr (Or.inl (by show nI (p / 64) + -1 < 0; rw [c]; exact m1_n)))), fun q h2 hq => by have : q + 64 = p := hq; omega⟩
    · exact good (p % 64) (p / 64 - 1) (p - 64) hx2 (by omega) (by omega) (pl_0 _) (pl_m (by omega)) (by show p - 64 + 64 = p; omega) (fun q' hq' => by have : q' + 64 = p := hq'; omega)
theorem nb_adj {f : Nat → Int64} {p dd q : Nat} (hp : p < 4096) (hq : q < 4096) (h1 : qs f p = true) (h2 : qs f q = true) (h : nbP p dd q) : cnx (adj f 0) p q := by
  match dd, h with
  | 0, h => exact cnx_of ⟨h1, h2, hp, hq, Or.inl ⟨h.1, by have := h.1; have := h.2; omega⟩⟩
  | 1, h => exact cnx_sy (cnx_of ⟨h2, h1, hq, hp, Or.inl ⟨h.1.symm, by have := h.1; have := h.2; omega⟩⟩)
  | 2, h => exact cnx_of ⟨h1, h2, hp, hq, Or.inr (by have : q = p + 64 := h; omega)⟩
  | n + 3, h => exact cnx_sy (cnx_of ⟨h2, h1, hq, hp, Or.inr (by have : q + 64 = p := h; omega)⟩)
theorem adj_nb {f : Nat → Int64} {a b : Nat} (h : adj f 0 a b) : (∃ dd, dd < 4 ∧ nbP a dd b) ∧ ∃ dd, dd < 4 ∧ nbP b dd a := by
  obtain ⟨-, -, ha, hb, h | h⟩ := h
  · exact ⟨⟨0, by decide, ⟨h.1, by omega⟩⟩, ⟨1, by decide, ⟨h.1.symm, by omega⟩⟩⟩
  · exact ⟨⟨2, by decide, (by show b = a + 64; omega)⟩, ⟨3, by decide, (by show a + 64 = b; omega)⟩⟩
/-- labels when the first k squares are gone through -/
def lbK (f : Nat → Int64) (fi : Nat → Bool) (k : Nat) (g : Nat → Int32) : Prop := ∀ j, j < 4096 → (g j = -1 ∧ ∀ a, a < k → fi a = true → cnx (adj f 0) a j → qs f j = false) ∨ (qs f j = true ∧ ∃ a, a < k ∧ fi a = true ∧ cnx (adj f 0) a j ∧ g j = nI (cn fi a))
def flA (f : Nat → Int64) (k : Nat) (N : Nat → Bool) (d : Nat) (st : Nat → Int32) : Prop := (∀ j, N j = true → j < 4096 ∧ qs f j = true ∧ cnx (adj f 0) k j) ∧ N k = true ∧ ∀ i, i < d → ∃ p, N p = true ∧ st i = nI p
def clo (f : Nat → Int64) (N : Nat → Bool) (j n : Nat) : Prop := ∀ dd q, dd < n → q < 4096 → nbP j dd q → qs f q = true → N q = true
def flB (f : Nat → Int64) (N : Nat → Bool) (d : Nat) (st : Nat → Int32) : Prop := ∀ j, N j = true → (∃ i, i < d ∧ st i = nI j) ∨ clo f N j 4
def flC (f : Nat → Int64) (N : Nat → Bool) (d : Nat) (st : Nat → Int32) (p n : Nat) : Prop := ∀ j, N j = true → (∃ i, i < d ∧ st i = nI j) ∨ clo f N j 4 ∨ (j = p ∧ clo f N p n)
theorem clo_up {f : Nat → Int64} {N : Nat → Bool} {j n q : Nat} (h : clo f N j n) : clo f (updB N q true) j n := fun dd r h1 h2 h3 h4 => by
  by_cases e : r = q
  · rw [e, updB_s]
  · rw [updB_n _ _ e]
    exact h dd r h1 h2 h3 h4
theorem fl_start {f : Nat → Int64} {k : Nat} (hk : k < 4096) (hq : qs f k = true) (st : Nat → Int32) : flA f k (fun j => decide (j = k)) 1 (upd st 0 (nI k)) ∧ flB f (fun j => decide (j = k)) 1 (upd st 0 (nI k)) := by
  refine ⟨⟨fun j hj => ?_, decide_eq_true rfl, fun i hi => ⟨k, decide_eq_true rfl, ?_⟩⟩, fun j hj => Or.inl ⟨0, by decide, ?_⟩⟩
  · have e : j = k := of_decide_eq_true hj
    subst e
    exact ⟨hk, hq, cnx_rf _ _⟩
  · rw [show i = 0 by omega, pk_us]
  · have e : j = k := of_decide_eq_true hj
    rw [pk_us, e]
theorem fl_pop {f : Nat → Int64} {k d p : Nat} {N : Nat → Bool} {st : Nat → Int32} (hA : flA f k N (d + 1) st) (hB : flB f N (d + 1) st) (hp : p < 4096) (e : st d = nI p) : flA f k N d st ∧ flC f N d st p 0 := by
  refine ⟨⟨hA.1, hA.2.1, fun i hi => hA.2.2 i (by omega)⟩, fun j hj => ?_⟩
  rcases hB j hj with ⟨i, h1, h2⟩ | h
  · rcases Nat.lt_or_ge i d with q | q
    · exact Or.inl ⟨i, q, h2⟩
    · rw [show i = d by omega, e] at h2
      have := (hA.1 j hj).1
      exact Or.inr (Or.inr ⟨((nI_eq (by omega) (by omega)).mp h2).symm, fun dd q h => absurd h (Nat.not_lt_zero _)⟩)
  · exact Or.inr (Or.inl h)
theorem fl_push {f : Nat → Int64} {k d p n q : Nat} {N : Nat → Bool} {st : Nat → Int32} (hA : flA f k N d st) (hC : flC f N d st p n) (hp : N p = true) (hq : q < 4096) (h1 : qs f q = true) (h2 : nbP p n q) (hu : ∀ q', nbP p n q' → q' = q) : flA f k (updB N q true) (d + 1) (upd st d (nI q)) ∧ flC f (updB N q true) (d + 1) (upd st d (nI q)) p (n + 1) := by
  have hp2 := hA.1 p hp
  have nN : ∀ j, (updB N q true) j = true → j = q ∨ N j = true := fun j hj => by
    by_cases e : j = q
    · exact Or.inl e
    · rw [updB_n _ _ e] at hj
      exact Or.inr hj
  have kp : ∀ j, N j = true → (updB N q true) j = true := fun j hj => by
    by_cases e : j = q
    · rw [e, updB_s]
    · rw [updB_n _ _ e]
      exact hj
  have old : ∀ i, i < d → upd st d (nI q) i = st i := fun i hi => pk_un (by omega)
  refine ⟨⟨fun j hj => ?_, kp k hA.2.1, fun i hi => ?_⟩, fun j hj => ?_⟩
  · rcases nN j hj with e | e
    · subst e
      exact ⟨hq, h1, cnx_tr hp2.2.2 (nb_adj hp2.1 hq hp2.2.1 h1 h2)⟩
    · exact hA.1 j e
  · rcases Nat.lt_or_ge i d with c | c
    · obtain ⟨r, r1, r2⟩ := hA.2.2 i c
      exact ⟨r, kp r r1, by rw [old i c]; exact r2⟩
    · exact ⟨q, updB_s _ _ _, by rw [show i = d by omega, pk_us]⟩
  · rcases nN j hj with e | e
    · exact Or.inl ⟨d, by omega, by rw [pk_us, e]⟩
    · rcases hC j e with ⟨i, i1, i2⟩ | c | ⟨c1, c2⟩
      · exact Or.inl ⟨i, by omega, by rw [old i i1]; exact i2⟩
      · exact Or.inr (Or.inl (clo_up c))
      · refine Or.inr (Or.inr ⟨c1, fun dd r r1 r2 r3 r4 => ?_⟩)
        rcases Nat.lt_or_ge dd n with c | c
        · exact clo_up c2 dd r c r2 r3 r4
        · rw [show dd = n by omega] at r3
          rw [hu r r3, updB_s]
theorem fl_skip {f : Nat → Int64} {d p n : Nat} {N : Nat → Bool} {st : Nat → Int32} (hC : flC f N d st p n) (hs : ∀ q, q < 4096 → nbP p n q → qs f q = true → N q = true) : flC f N d st p (n + 1) := fun j hj => by
  rcases hC j hj with c | c | ⟨c1, c2⟩
  · exact Or.inl c
  · exact Or.inr (Or.inl c)
  · refine Or.inr (Or.inr ⟨c1, fun dd r r1 r2 r3 r4 => ?_⟩)
    rcases Nat.lt_or_ge dd n with c | c
    · exact c2 dd r c r2 r3 r4
    · rw [show dd = n by omega] at r3
      exact hs r r2 r3 r4
theorem fl_done {f : Nat → Int64} {d p : Nat} {N : Nat → Bool} {st : Nat → Int32} (hC : flC f N d st p 4) : flB f N d st := fun j hj => by
  rcases hC j hj with c | c | ⟨c1, c2⟩
  · exact Or.inl c
  · exact Or.inr c
  · rw [c1]
    exact Or.inr c2
theorem fl_end {f : Nat → Int64} {k : Nat} {N : Nat → Bool} {st : Nat → Int32} (hA : flA f k N 0 st) (hB : flB f N 0 st) {j : Nat} (hc : cnx (adj f 0) k j) : N j = true := by
  have h := cnx_ind hc (fun a b => N a = N b) (fun _ => rfl) (fun _ _ e => e.symm) (fun _ _ _ e1 e2 => e1.trans e2) (fun a b hab => by
    obtain ⟨⟨d1, e1, e2⟩, ⟨d2, e3, e4⟩⟩ := adj_nb hab
    have cl : ∀ x, N x = true → clo f N x 4 := fun x hx2 => by
      rcases hB x hx2 with ⟨i, q, _⟩ | q
      · exact absurd q (Nat.not_lt_zero _)
      · exact q
    refine bool_ext ⟨fun q => cl a q d1 b e1 hab.2.2.2.1 e2 hab.2.1, fun q => cl b q d2 a e3 hab.2.2.1 e4 hab.1⟩)
  rw [← h]
  exact hA.2.1
theorem cn_updB {N : Nat → Bool} {q : Nat} (h : N q = false) : ∀ n, q < n → cn (updB N q true) n = cn N n + 1
  | 0, hq => absurd hq (Nat.not_lt_zero _)
  | n + 1, hq => by
    rcases Nat.lt_or_ge q n with c | c
    · rw [cn_s, cn_s, cn_updB h n c, updB_n _ _ (show n ≠ q by omega)]
      omega
    · have e : q = n := by omega
      rw [cn_s, cn_s, cn_congr n (fun i hi => updB_n N true (show i ≠ q by omega)), ← e, updB_s, h]
      rfl
/-- the label of square q, while shape T is marked -/
theorem lb_q {f : Nat → Int64} {fi : Nat → Bool} {k : Nat} {g : Nat → Int32} (hF : isF f 0 fi) (hL : lbK f fi k g) (hk : k < 4096) (hq : qs f k = true) (hg : g k = -1) {q : Nat} (h1 : q < 4096) (h2 : qs f q = true) (hc : cnx (adj f 0) k q) : g q = -1 := by
  rcases hL q h1 with ⟨c, _⟩ | ⟨_, a, a1, a2, a3, a4⟩
  · exact c
  · exfalso
    rcases hL k hk with ⟨_, c⟩ | ⟨_, b, b1, b2, b3, b4⟩
    · rw [c a a1 a2 (cnx_tr a3 (cnx_sy hc))] at hq
      cases hq
    · have := cn_4096 fi
      have h3 := cn_mono fi (show b ≤ 4096 by omega)
      rw [b4] at hg
      have h4 : ¬ nI (cn fi b) < 0 := nI_pos (by omega)
      rw [hg] at h4
      exact h4 (by decide)
theorem lb_m1 {f : Nat → Int64} {fi : Nat → Bool} {k : Nat} {g : Nat → Int32} (hL : lbK f fi k g) (hk4 : k ≤ 4096) {j : Nat} (hj : j < 4096) (hg : ¬ g j = -1) : ∃ a, a < k ∧ fi a = true ∧ cnx (adj f 0) a j ∧ g j = nI (cn fi a) := by
  rcases hL j hj with ⟨c, _⟩ | ⟨_, h⟩
  · exact absurd c hg
  · exact h
theorem lb_skip {f : Nat → Int64} {fi : Nat → Bool} {k : Nat} {g : Nat → Int32} (hL : lbK f fi k g) (h : fi k = false) : lbK f fi (k + 1) g := fun j hj => by
  rcases hL j hj with ⟨c, c2⟩ | ⟨c1, a, a1, a2, a3, a4⟩
  · refine Or.inl ⟨c, fun a ha h1 h2 => ?_⟩
    rcases Nat.lt_or_ge a k with q | q
    · exact c2 a q h1 h2
    · rw [show a = k by omega, h] at h1
      cases h1
  · exact Or.inr ⟨c1, a, by omega, a2, a3, a4⟩
theorem lb_new {f : Nat → Int64} {fi : Nat → Bool} {k : Nat} {g : Nat → Int32} {N : Nat → Bool} {st : Nat → Int32} (hF : isF f 0 fi) (hL : lbK f fi k g) (hk : k < 4096) (h : fi k = true) (hA : flA f k N 0 st) (hB : flB f N 0 st) : lbK f fi (k + 1) (fun j => if N j then nI (cn fi k) else g j) := fun j hj => by
  cases hN : N j with
  | true =>
    have := hA.1 j hN
    exact Or.inr ⟨this.2.1, k, by omega, h, this.2.2, if_pos hN⟩
  | false =>
    have hno : ¬ cnx (adj f 0) k j := fun c => by
      rw [fl_end hA hB c] at hN
      cases hN
    rcases hL j hj with ⟨c, c2⟩ | ⟨c1, a, a1, a2, a3, a4⟩
    · refine Or.inl ⟨(if_neg (by rw [hN]; decide)).trans c, fun a ha h1 h2 => ?_⟩
      rcases Nat.lt_or_ge a k with q | q
      · exact c2 a q h1 h2
      · rw [show a = k by omega] at h2
        exact absurd h2 hno
    · exact Or.inr ⟨c1, a, by omega, a2, a3, (if_neg (by rw [hN]; decide)).trans a4⟩
/-- labels as label leaves them -/
def lbS (f : Nat → Int64) (fi : Nat → Bool) (g : Nat → Int32) : Prop := ∀ j, j < 4096 → (qs f j = false ∧ g j = -1) ∨ (qs f j = true ∧ ∃ t, t < cn fi 4096 ∧ ofT f fi j t ∧ g j = nI t)
theorem lb_all {f : Nat → Int64} {fi : Nat → Bool} {g : Nat → Int32} (hF : isF f 0 fi) (hL : lbK f fi 4096 g) : lbS f fi g := fun j hj => by
  rcases hL j hj with ⟨c, c2⟩ | ⟨c1, a, a1, a2, a3, a4⟩
  · cases hq : qs f j with
    | false => exact Or.inl ⟨rfl, c⟩
    | true =>
      exfalso
      obtain ⟨a, a1, a2, a3⟩ := isF_first hF j j rfl hj hq
      rw [c2 a (by omega) a2 a3] at hq
      cases hq
  · exact Or.inr ⟨c1, cn fi a, cn_in a1 a2, ⟨a, a1, a2, a3, rfl⟩, a4⟩
theorem lb_0 (f : Nat → Int64) (fi : Nat → Bool) {g : Nat → Int32} (h : ∀ j, j < 4096 → g j = -1) : lbK f fi 0 g := fun j hj => Or.inl ⟨h j hj, fun a ha => absurd ha (Nat.not_lt_zero _)⟩
