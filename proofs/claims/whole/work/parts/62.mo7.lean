/-! the reference: isRound and size -/
theorem ob_iff (f : Nat → Bool) : ∀ n, ob f n = true ↔ ∃ i, i < n ∧ f i = true
  | 0 => ⟨fun h => (by cases h), fun ⟨i, h, _⟩ => absurd h (Nat.not_lt_zero _)⟩
  | n + 1 => by
    show (ob f n || f n) = true ↔ _
    rw [Bool.or_eq_true, ob_iff f n]
    constructor
    · rintro (⟨i, h1, h2⟩ | h)
      · exact ⟨i, by omega, h2⟩
      · exact ⟨n, by omega, h⟩
    · rintro ⟨i, h1, h2⟩
      rcases Nat.lt_or_ge i n with q | q
      · exact Or.inl ⟨i, q, h2⟩
      · rw [show i = n by omega] at h2
        exact Or.inr h2
/-- square number (j, i) of the oblong round (x, y) -/
def rg (f : Nat → Int64) (x y dx dy i j : Nat) : Bool := decide (dx ≤ x + j ∧ x + j - dx < 64 ∧ dy ≤ y + i ∧ y + i - dy < 64) && bb (f (y + i - dy)) (x + j - dx)
def hit (all : Bool) (f : Nat → Int64) (x y dx dy i j : Nat) : Bool := if all then !rg f x y dx dy i j else rg f x y dx dy i j
def hits (all : Bool) (f : Nat → Int64) (x y dx dy n : Nat) : Bool := ob (fun i => ob (hit all f x y dx dy i) (2 * dx + 1)) n
theorem rzb_at (g : Bool) (f : Nat → Int64) {dx dy x y : Nat} (hx2 : x < 64) (hy2 : y < 64) : rzb g f dx dy x y = bb (xrs g (xtu (fun v => xrs g (f v) dx) x) dy) y := by
  unfold rzb
  rw [bb_xtu _ hy2 hx2]
theorem rg_iff {f : Nat → Int64} {x y dx dy i j : Nat} : rg f x y dx dy i j = true ↔ dx ≤ x + j ∧ x + j - dx < 64 ∧ dy ≤ y + i ∧ y + i - dy < 64 ∧ bb (f (y + i - dy)) (x + j - dx) = true := by
  unfold rg
  rw [Bool.and_eq_true, decide_eq_true_eq]
  constructor
  · rintro ⟨⟨a, b, c, d⟩, e⟩
    exact ⟨a, b, c, d, e⟩
  · rintro ⟨a, b, c, d, e⟩
    exact ⟨⟨a, b, c, d⟩, e⟩
theorem round_eq (all : Bool) (f : Nat → Int64) {dx dy x y : Nat} (hx2 : x < 64) (hy2 : y < 64) : rzb (!all) f dx dy x y = (all ^^ hits all f x y dx dy (2 * dy + 1)) := by
  rw [rzb_at _ _ hx2 hy2]
  cases all with
  | false =>
    rw [Bool.false_xor]
    refine bool_ext ?_
    unfold hits
    rw [ob_iff]
    show bb (xwi (xtu (fun v => xwi (f v) dx) x) dy) y = true ↔ _
    unfold xwi
    rw [bb_ofB _ hy2, dlb_iff]
    constructor
    · rintro ⟨v, h1, h2, h3, h4⟩
      rw [bb_xtu _ hx2 h1, bb_ofB _ hx2, dlb_iff] at h2
      obtain ⟨w, k1, k2, k3, k4⟩ := h2
      refine ⟨v + dy - y, by omega, (ob_iff _ _).mpr ⟨w + dx - x, by omega, ?_⟩⟩
      show rg f x y dx dy (v + dy - y) (w + dx - x) = true
      rw [rg_iff, show y + (v + dy - y) - dy = v by omega, show x + (w + dx - x) - dx = w by omega]
      exact ⟨by omega, k1, by omega, h1, k2⟩
    · rintro ⟨i, h1, h2⟩
      obtain ⟨j, h3, h4⟩ := (ob_iff _ _).mp h2
      have h5 : rg f x y dx dy i j = true := h4
      rw [rg_iff] at h5
      obtain ⟨a, b, c, d, e⟩ := h5
      refine ⟨y + i - dy, d, ?_, by omega, by omega⟩
      rw [bb_xtu _ hx2 d, bb_ofB _ hx2, dlb_iff]
      exact ⟨x + j - dx, b, e, by omega, by omega⟩
  | true =>
    rw [Bool.true_xor]
    refine bool_ext ?_
    unfold hits
    rw [Bool.not_eq_true', ← Bool.not_eq_true, ob_iff]
    show bb (xna (xtu (fun v => xna (f v) dx) x) dy) y = true ↔ _
    unfold xna
    rw [bb_ofB _ hy2, erb_iff]
    constructor
    · rintro ⟨h1, h2, h3⟩ ⟨i, h4, h5⟩
      obtain ⟨j, h6, h7⟩ := (ob_iff _ _).mp h5
      have h8 : (!rg f x y dx dy i j) = true := h7
      have h9 := h3 (y + i - dy) (by omega) (by omega)
      rw [bb_xtu _ hx2 (by omega), bb_ofB _ hx2, erb_iff] at h9
      obtain ⟨g1, g2, g3⟩ := h9
      have g4 := g3 (x + j - dx) (by omega) (by omega)
      rw [rg_iff.mpr ⟨by omega, by omega, by omega, by omega, g4⟩] at h8
      cases h8
    · intro hn
      have all1 : ∀ i j, i < 2 * dy + 1 → j < 2 * dx + 1 → rg f x y dx dy i j = true := fun i j hi hj => by
        cases e : rg f x y dx dy i j with
        | true => rfl
        | false =>
          exfalso
          exact hn ⟨i, hi, (ob_iff _ _).mpr ⟨j, hj, show (!rg f x y dx dy i j) = true by rw [e]; rfl⟩⟩
      have c0 := rg_iff.mp (all1 0 0 (by omega) (by omega))
      have c1 := rg_iff.mp (all1 (2 * dy) (2 * dx) (by omega) (by omega))
      refine ⟨by omega, by omega, fun v h1 h2 => ?_⟩
      rw [bb_xtu _ hx2 (by omega), bb_ofB _ hx2, erb_iff]
      refine ⟨by omega, by omega, fun w h3 h4 => ?_⟩
      have c2 := rg_iff.mp (all1 (v + dy - y) (w + dx - x) (by omega) (by omega))
      rw [show y + (v + dy - y) - dy = v by omega, show x + (w + dx - x) - dx = w by omega] at c2
      exact c2.2.2.2.2
theorem sub_1 (a b : Nat) : nI a - nI b + 1 = nI (a + 1) - nI b := by
  rw [← nI_1 a, Int32.sub_eq_add_neg, Int32.sub_eq_add_neg, Int32.add_assoc, Int32.add_assoc, Int32.add_comm (-nI b) 1]
theorem cmpZ {a b c : Nat} (ha : a < 2 ^ 30) (hb : b < 2 ^ 30) (hc : c < 2 ^ 30) : nI c < nI a - nI b ↔ c + b < a := by
  rw [Int32.lt_iff_toInt_lt, pk_sub_toInt ha hb, nI_toInt (by omega)]
  omega
theorem on1_Z (f : Nat → Int64) {x y dx dy i j : Nat} (hx2 : x + j < 2 ^ 30) (hy2 : y + i < 2 ^ 30) (hdx : dx < 2 ^ 30) (hdy : dy < 2 ^ 30) : on1 f (nI (x + j) - nI dx) (nI (y + i) - nI dy) = rg f x y dx dy i j := by
  unfold rg
  by_cases h1 : dx ≤ x + j
  · rw [show nI (x + j) - nI dx = nI (x + j - dx) from pk_sub h1]
    by_cases h2 : dy ≤ y + i
    · rw [show nI (y + i) - nI dy = nI (y + i - dy) from pk_sub h2]
      rw [on1_N f (by omega) (by omega)]
      unfold rwN
      by_cases h3 : y + i - dy < 64
      · rw [if_pos h3]
        by_cases h4 : x + j - dx < 64
        · rw [decide_eq_true ⟨h1, h4, h2, h3⟩, Bool.true_and]
        · rw [bb_big (by omega), decide_eq_false (fun c => h4 c.2.1)]
          rfl
      · rw [if_neg h3, bb_0, decide_eq_false (fun c => h3 c.2.2.2)]
        rfl
    · rw [decide_eq_false (fun c => h2 c.2.2.1)]
      exact on1_no (Or.inr (Or.inr (Or.inl (pk_sneg hdy (by omega)))))
  · rw [decide_eq_false (fun c => h1 c.1)]
    exact on1_no (Or.inl (pk_sneg hdx (by omega)))
set_option maxRecDepth 20000 in
theorem c_mo_isRound (l : Launch) (h : hp_H) (s : St) (u : moT) (x y dx dy : Nat) (all : Bool) (hx2 : x < 64) (hy2 : y < 64) (hdx : dx ≤ 64) (hdy : dy ≤ 64) (f : Nat → Int64) (hp : h[75]? = some (mo75 s u)) (hf : h[81]? = some (LA 64 f)) :
    hp_M l Y_mo_isRound [.ref 75, .int (nI x), .int (nI y), .int (nI dx), .int (nI dy), .int (zI all)] h true 0 0 (hq_P (.inl (some (.int (zI (rzb (!all) f dx dy x y))))) h) := by
  rw [round_eq all f hx2 hy2]
  refine hp_start (T := T_mo_isRound) (by decide) rfl (fun σ => Nat.le_of_ble_eq_true rfl) (fun G C => ?_)
  have zr : ∀ b : Bool, narrow .boolean (.int (zI b)) = .int (zI b) := fun b => by cases b <;> rfl
  have key : ∀ (m i : Nat) (S E : Bool), i + m = 2 * dy + 1 → hits all f x y dx dy i = false → (if all then E = true else S = false) → hp_W G 12 [(0, .ref 75), (1, .int (nI x)), (2, .int (nI y)), (3, .int (nI dx)), (4, .int (nI dy)), (5, .int (zI all)), (6, .int (zI S)), (7, .int (zI E)), (8, .int (nI (y + i) - nI dy))] [] h true 0 0 := by
    intro m
    induction m with
    | zero =>
      intro i S E hi hh hSE
      have e : i = 2 * dy + 1 := by omega
      subst e
      refine hp_run_sound hp_co V_mo_isRound C (fun _ _ _ _ _ _ _ hq => hq) [12] 12 _ _ _ _ _ _ _ ?_
      refine And.intro (fun c => ?_) (fun c => absurd (show nI y + nI dy < nI (y + (2 * dy + 1)) - nI dy by rw [nI_add, cmpZ (by omega) (by omega) (by omega)]; omega) c)
      rw [hh, Bool.xor_false]
      exact And.intro rfl (And.intro (zr all) (And.intro rfl rfl))
    | succ m ih =>
      intro i S E hi hh hSE
      -- after a row
      have t84 : ∀ S' E', (S' = (S || ob (rg f x y dx dy i) (2 * dx + 1))) → (E' = (E && !ob (fun j => !rg f x y dx dy i j) (2 * dx + 1))) → ∀ v9 : Int32, hp_W G 84 [(0, .ref 75), (1, .int (nI x)), (2, .int (nI y)), (3, .int (nI dx)), (4, .int (nI dy)), (5, .int (zI all)), (6, .int (zI S')), (7, .int (zI E')), (8, .int (nI (y + i) - nI dy)), (9, .int v9)] [] h true 0 0 := by
        intro S' E' hS' hE' v9
        have hs : hits all f x y dx dy (i + 1) = (hits all f x y dx dy i || ob (hit all f x y dx dy i) (2 * dx + 1)) := rfl
        have nx := ih (i + 1) S' E' (by omega)
        rw [show y + (i + 1) = y + i + 1 from rfl, ← sub_1] at nx
        have done : ob (hit all f x y dx dy i) (2 * dx + 1) = true → hits all f x y dx dy (2 * dy + 1) = true := fun hb => by
          unfold hits
          exact (ob_iff _ _).mpr ⟨i, by omega, hb⟩
        refine hp_run_sound hp_co V_mo_isRound C (fun _ _ _ _ _ _ _ hq => hq) [12] 16 _ _ _ _ _ _ _ ?_
        cases all with
        | true =>
          have hE : E = true := hSE
          rw [hE, Bool.true_and] at hE'
          refine And.intro (fun q => absurd q (by decide)) (fun _ => ?_)
          cases hob : ob (hit true f x y dx dy i) (2 * dx + 1) with
          | false =>
            have hob2 : ob (fun j => !rg f x y dx dy i j) (2 * dx + 1) = false := hob
            rw [hob2] at hE'
            have hW := nx (by rw [hs, hh, hob]; rfl) hE'
            rw [hE'] at hW ⊢
            refine And.intro (fun _ => ?_) (fun q => absurd q (by decide))
            exact hp_W_pick [0, 1, 2, 3, 4, 5, 6, 7, 8] hW
          | true =>
            have hob2 : ob (fun j => !rg f x y dx dy i j) (2 * dx + 1) = true := hob
            rw [hob2] at hE'
            rw [hE']
            refine And.intro (fun q => absurd rfl q) (fun _ => ?_)
            refine And.intro (fun _ => ?_) (fun q => absurd q (by decide))
            rw [done hob]
            exact And.intro rfl (And.intro rfl (And.intro rfl rfl))
        | false =>
          have hS : S = false := hSE
          rw [hS, Bool.false_or] at hS'
          refine And.intro (fun _ => ?_) (fun q => absurd rfl q)
          cases hob : ob (hit false f x y dx dy i) (2 * dx + 1) with
          | false =>
            have hob2 : ob (rg f x y dx dy i) (2 * dx + 1) = false := hob
            rw [hob2] at hS'
            have hW := nx (by rw [hs, hh, hob]; rfl) hS'
            rw [hS'] at hW ⊢
            refine And.intro (fun _ => ?_) (fun q => absurd rfl q)
            exact hp_W_pick [0, 1, 2, 3, 4, 5, 6, 7, 8] hW
          | true =>
            have hob2 : ob (rg f x y dx dy i) (2 * dx + 1) = true := hob
            rw [hob2] at hS'
            rw [hS']
            refine And.intro (fun q => absurd q (by decide)) (fun _ => ?_)
            refine And.intro (fun q => absurd rfl q) (fun _ => ?_)
            rw [done hob]
            exact And.intro rfl (And.intro rfl (And.intro rfl rfl))
      have inner : ∀ (m' j : Nat) (S' E' : Bool), j + m' = 2 * dx + 1 → (S' = (S || ob (rg f x y dx dy i) j)) → (E' = (E && !ob (fun j => !rg f x y dx dy i j) j)) → hp_W G 26 [(0, .ref 75), (1, .int (nI x)), (2, .int (nI y)), (3, .int (nI dx)), (4, .int (nI dy)), (5, .int (zI all)), (6, .int (zI S')), (7, .int (zI E')), (8, .int (nI (y + i) - nI dy)), (9, .int (nI (x + j) - nI dx))] [] h true 0 0 := by
        intro m'
        induction m' with
        | zero =>
          intro j S' E' hj hS' hE'
          have e : j = 2 * dx + 1 := by omega
          subst e
          refine hp_run_sound hp_co V_mo_isRound C (fun _ _ _ _ _ _ _ hq => hq) [84] 8 _ _ _ _ _ _ _ ?_
          refine And.intro (fun c => ?_) (fun c => absurd (show nI x + nI dx < nI (x + (2 * dx + 1)) - nI dx by rw [nI_add, cmpZ (by omega) (by omega) (by omega)]; omega) c)
          exact t84 S' E' hS' hE' _
        | succ m' im =>
          intro j S' E' hj hS' hE'
          refine hp_run_sound hp_co V_mo_isRound C (fun _ _ _ _ _ _ _ hq => hq) [61] 30 _ _ _ _ _ _ _ ?_
          refine And.intro (fun c => absurd c (show ¬ nI x + nI dx < nI (x + j) - nI dx by rw [nI_add, cmpZ (by omega) (by omega) (by omega)]; omega)) (fun c => ?_)
          refine And.intro ⟨3, _, hp, rfl⟩ ?_
          refine ic_P (c_mo_isOne l h s u _ _ f hp hf) (Nat.le_refl _) (Nat.le_refl _) ?_
          rw [on1_Z f (by omega) (by omega) (by omega) (by omega)]
          have s1 : ob (rg f x y dx dy i) (j + 1) = (ob (rg f x y dx dy i) j || rg f x y dx dy i j) := rfl
          have s2 : ob (fun j => !rg f x y dx dy i j) (j + 1) = (ob (fun j => !rg f x y dx dy i j) j || !rg f x y dx dy i j) := rfl
          have nx := im (j + 1)
          rw [show x + (j + 1) = x + j + 1 from rfl, ← sub_1, s1, s2, ← Bool.or_assoc, ← hS', Bool.not_or, Bool.not_not, ← Bool.and_assoc, ← hE'] at nx
          generalize rg f x y dx dy i j = b at nx
          have t61 : hp_W G 61 [(0, .ref 75), (1, .int (nI x)), (2, .int (nI y)), (3, .int (nI dx)), (4, .int (nI dy)), (5, .int (zI all)), (6, .int (zI (S' || b))), (7, .int (zI E')), (8, .int (nI (y + i) - nI dy)), (9, .int (nI (x + j) - nI dx)), (10, .int (zI b))] [] h true 0 0 := by
            have hW := nx (S' || b) (E' && b) (by omega) rfl rfl
            refine hp_run_sound hp_co V_mo_isRound C (fun _ _ _ _ _ _ _ hq => hq) [26] 12 _ _ _ _ _ _ _ ?_
            generalize (S' || b) = S2 at hW
            cases E' <;> cases b
            · exact And.intro (fun _ => hp_W_pick [0, 1, 2, 3, 4, 5, 6, 7, 8, 9] hW) (fun q => absurd rfl q)
            · exact And.intro (fun _ => hp_W_pick [0, 1, 2, 3, 4, 5, 6, 7, 8, 9] hW) (fun q => absurd rfl q)
            · exact And.intro (fun q => absurd q (by decide)) (fun _ => And.intro (fun _ => hp_W_pick [0, 1, 2, 3, 4, 5, 6, 7, 8, 9] hW) (fun q => absurd rfl q))
            · exact And.intro (fun q => absurd q (by decide)) (fun _ => And.intro (fun q => absurd q (by decide)) (fun _ => hp_W_pick [0, 1, 2, 3, 4, 5, 6, 7, 8, 9] hW))
          cases S' <;> cases b
          · exact And.intro (fun q => absurd rfl q) (fun _ => And.intro (fun _ => t61) (fun q => absurd rfl q))
          · exact And.intro (fun q => absurd rfl q) (fun _ => And.intro (fun q => absurd q (by decide)) (fun _ => t61))
          · exact And.intro (fun _ => t61) (fun q => absurd q (by decide))
          · exact And.intro (fun _ => t61) (fun q => absurd q (by decide))
      refine hp_run_sound hp_co V_mo_isRound C (fun _ _ _ _ _ _ _ hq => hq) [26] 14 _ _ _ _ _ _ _ ?_
      refine And.intro (fun c => absurd c (show ¬ nI y + nI dy < nI (y + i) - nI dy by rw [nI_add, cmpZ (by omega) (by omega) (by omega)]; omega)) (fun c => ?_)
      exact inner (2 * dx + 1) 0 S E (by omega) (by show S = (S || false); rw [Bool.or_false]) (by show E = (E && true); rw [Bool.and_true])
  refine hp_run_sound hp_co V_mo_isRound C (fun _ _ _ _ _ _ _ hq => hq) [12] 12 _ _ _ _ _ _ _ ?_
  exact key (2 * dy + 1) 0 false true (by omega) rfl (by cases all <;> rfl)
set_option maxRecDepth 20000 in
theorem m_size_53 (l : Launch) (s : St) (u : moT) {h : hp_H} (hC : moC h s u) (c : Nat) (hc : 0 < c) (hc2 : c < 4) (x o : Int32) (a : Int64) {G : hp_G} (C : hp_ctx T_mo_size Y_mo_size l false 0 0 (fun r h' => r = .inl (some (.int 0)) ∧ hxM h h' ∧ moS h' s (nI c)) G) : hp_W G 53 [(0, .ref 75), (1, .int x), (2, .long a), (4, .int o)] [.int (nI c), .ref 75] h true 0 0 := by
  refine hp_run_sound hp_co V_mo_size C (fun _ _ _ _ _ _ _ hq => hq) [65] 20 _ _ _ _ _ _ _ ?_
  refine And.intro (Or.inl rfl) (Exists.intro _ (And.intro hC.1 (And.intro (Nat.le_of_ble_eq_true rfl) (And.intro rfl (And.intro rfl ?_)))))
  refine Exists.intro _ (And.intro (hq_get hC.1) ?_)
  refine And.intro (fun q => absurd q (nI_nle hc (by omega))) (fun q => ?_)
  exact And.intro rfl (And.intro rfl (And.intro rfl ⟨hxM_75 h _, _, rfl, moC_cd hC (nI c)⟩))
set_option maxRecDepth 20000 in
theorem m_size_1 (l : Launch) (s : St) (x o : Int32) (a : Int64) (hx0 : x < 0 ∨ nI (s_B s + s_m s) ≤ x) : moM l Y_mo_size [.int x, .long a, .int o] s 1 (.int 0) s := by
  rintro h cd ⟨u, rfl, hC⟩
  refine hp_start (T := T_mo_size) (by decide) rfl (fun σ => Nat.le_of_ble_eq_true rfl) (fun G C => ?_)
  have t53 := m_size_53 l s u hC 1 (by decide) (by decide) x o a C
  refine hp_run_sound hp_co V_mo_size C (fun _ _ _ _ _ _ _ hq => hq) [13, 53] 14 _ _ _ _ _ _ _ ?_
  refine And.intro ⟨3, _, hC.1, rfl⟩ ?_
  refine ic_P (c_mo_isLayer l h s u x hC.1) (Nat.le_refl _) (Nat.le_refl _) ?_
  rw [lay_no hx0]
  exact And.intro (fun q => absurd rfl q) (fun _ => t53)
theorem m_size_13 (l : Launch) (s : St) (u : moT) (L : Nat) (o : Int32) (a : Int64) (hO : stOK s) (hL : L < s_B s + s_m s) {h : hp_H} (hC : moC h s u) {Q : hp_R → hp_H → Prop} {G : hp_G} (C : hp_ctx T_mo_size Y_mo_size l false 0 0 Q G) (hi : hp_W G 13 [(0, .ref 75), (1, .int (nI L)), (2, .long a), (4, .int o)] [.ref 75] h true 0 0) : hp_W G 0 [(0, .ref 75), (1, .int (nI L)), (2, .long a), (4, .int o)] [] h true 0 0 := by
  refine hp_run_sound hp_co V_mo_size C (fun _ _ _ _ _ _ _ hq => hq) [13, 53] 14 _ _ _ _ _ _ _ ?_
  refine And.intro ⟨3, _, hC.1, rfl⟩ ?_
  refine ic_P (c_mo_isLayer l h s u _ hC.1) (Nat.le_refl _) (Nat.le_refl _) ?_
  rw [lay_de hO hL]
  exact And.intro (fun q => hi) (fun q => absurd q (by decide))
set_option maxRecDepth 20000 in
theorem m_size_2 (l : Launch) (s : St) (L : Nat) (o : Int32) (a : Int64) (hO : stOK s) (hL : L < s_B s + s_m s) (hm : s_m s = 24) : moM l Y_mo_size [.int (nI L), .long a, .int o] s 2 (.int 0) s := by
  rintro h cd ⟨u, rfl, hC⟩
  refine hp_start (T := T_mo_size) (by decide) rfl (fun σ => Nat.le_of_ble_eq_true rfl) (fun G C => ?_)
  refine m_size_13 l s u L o a hO hL hC C ?_
  have t53 := m_size_53 l s u hC 2 (by decide) (by decide) (nI L) o a C
  refine hp_run_sound hp_co V_mo_size C (fun _ _ _ _ _ _ _ hq => hq) [26, 53] 14 _ _ _ _ _ _ _ ?_
  refine Exists.intro _ (And.intro hC.1 ?_)
  exact And.intro (fun q => absurd (congrArg nI hm) q) (fun _ => t53)
set_option maxRecDepth 20000 in
theorem m_size_3 (l : Launch) (s : St) (L : Nat) (o : Int32) (a : Int64) (hO : stOK s) (hL : L < s_B s + s_m s) (hm : s_m s < 24) (ha : a = 0 ∨ a < -64 ∨ 64 < a) : moM l Y_mo_size [.int (nI L), .long a, .int o] s 3 (.int 0) s := by
  rintro h cd ⟨u, rfl, hC⟩
  refine hp_start (T := T_mo_size) (by decide) rfl (fun σ => Nat.le_of_ble_eq_true rfl) (fun G C => ?_)
  refine m_size_13 l s u L o a hO hL hC C ?_
  have t53 := m_size_53 l s u hC 3 (by decide) (by decide) (nI L) o a C
  refine hp_run_sound hp_co V_mo_size C (fun _ _ _ _ _ _ _ hq => hq) [52, 53] 24 _ _ _ _ _ _ _ ?_
  refine Exists.intro _ (And.intro hC.1 ?_)
  refine And.intro (fun _ => ?_) (fun q => absurd ((nI_eq (b := 24) (by omega) (by decide)).mp q) (by omega))
  refine And.intro (fun _ => t53) (fun q1 => And.intro (fun _ => t53) (fun q2 => And.intro (fun q3 => ?_) (fun _ => t53)))
  exfalso
  rcases ha with e | e | e
  · exact q1 ((lg_cmp_eq _ _).mpr e)
  · exact q2 ((lg_cmp_lt _ _).mpr e)
  · exact absurd ((lg_cmp_le _ _).mp q3) (Int64.not_le.mpr e)
theorem szv_m : ∀ g d, d ≤ 64 → 0 < d → (szv g d < 0 ↔ g = false) ∧ (if g then szv g d else - szv g d).toInt32 = nI d := by
  have h : ∀ g : Bool, ∀ d, d < 65 → 0 < d → (szv g d < 0 ↔ g = false) ∧ (if g then szv g d else - szv g d).toInt32 = nI d := by decide +kernel
  exact fun g d hd => h g d (by omega)
set_option maxRecDepth 20000 in
theorem m_size_0 (l : Launch) (s : St) (L d : Nat) (g oct : Bool) (hO : stOK s) (hL : L < s_B s + s_m s) (hm : s_m s < 24) (hd : d ≤ 64) (hd0 : 0 < d) (F : Nat → Int64) (hF : shw s L F) :
    moD l Y_mo_size [.int (nI L), .long (szv g d), .int (zI oct)] s (fun x y => if oct then (if g then rzb g F d (d / 2) x y || rzb g F (d / 2) d x y else rzb g F d (d / 2) x y && rzb g F (d / 2) d x y) else rzb g F d d x y) := by
  rintro h cd ⟨u, rfl, hC⟩
  obtain ⟨z1, z2, z3, -, -⟩ := szv_f g d hd hd0
  obtain ⟨z4, z5⟩ := szv_m g d hd hd0
  generalize szv g d = av at z1 z2 z3 z4 z5
  refine hp_start (T := T_mo_size) (by decide) rfl (fun σ => Nat.le_of_ble_eq_true rfl) (fun G C => ?_)
  refine m_size_13 l s u L (zI oct) av hO hL hC C ?_
  generalize hspd : (fun x y => if oct then (if g then rzb g F d (d / 2) x y || rzb g F (d / 2) d x y else rzb g F d (d / 2) x y && rzb g F (d / 2) d x y) else rzb g F d d x y) = sp at C
  have d2 : hp_c 2 = nI 2 := rfl
  -- with the layer loaded, from 98 on
  have t98 : ∀ (h3 : hp_H) (f : Nat → Int64), moC h3 s (0, u.2) → h3[81]? = some (LA 64 f) → shw s L f → hxM h h3 → hp_W G 98 [(0, .ref 75), (1, .int (nI L)), (2, .long av), (4, .int (zI oct)), (5, .int (zI !g)), (6, .int (nI d))] [] h3 false 0 0 := by
    intro h3 f hC3 k1 s1 hx3
    have hr := rw_of s1 hF
    obtain ⟨e0, k83⟩ := mw_at hC3.2.2 (Or.inr (Or.inr rfl))
    have key : ∀ (m y : Nat) (r : Nat → Int64), y + m = 64 → (∀ v i, v < y → i < 64 → bb (r v) i = sp i v) → hp_W G 101 [(0, .ref 75), (1, .int (nI L)), (2, .long av), (4, .int (zI oct)), (5, .int (zI !g)), (6, .int (nI d)), (7, .int (nI y))] [] (h3.set 83 (LA 64 r)) false 0 0 := by
      intro m
      induction m with
      | zero =>
        intro y r hy hg
        have e : y = 64 := by omega
        subst e
        have hC4 := moC_81 hC3 r (Or.inr (Or.inr rfl))
        refine hp_run_sound hp_co V_mo_size C (fun _ _ _ _ _ _ _ hq => hq) [101] 8 _ _ _ _ _ _ _ ?_
        refine And.intro (fun c => ?_) (fun c => absurd (nI_le (Nat.le_refl 64) (by decide)) c)
        refine And.intro ⟨3, _, hC4.1, rfl⟩ ?_
        refine ic_Q (c_mo_keep l _ s (0, u.2) r hO hm hC4 (hq_get k83)) (Nat.le_refl _) (Nat.le_refl _) (fun q h5 hq => ?_)
        obtain ⟨rfl, hx5, hq⟩ := hq
        exact And.intro rfl (And.intro rfl ⟨rfl, hxM_tr (hxM_set hx3 _ (by omega)) hx5, fun R hR2 => ⟨_, rfl, hq R (fun y hy => bb_ext (fun x hx2 => by rw [hg y x hy hx2, hR2 y x hy hx2]))⟩⟩)
      | succ m ih =>
        intro y r hy hg
        have hy64 : y < 64 := by omega
        have hC4 := moC_81 hC3 r (Or.inr (Or.inr rfl))
        have j1 : (h3.set 83 (LA 64 r))[81]? = some (LA 64 f) := by rw [hq_ne (by decide)]; exact k1
        have j3 : (h3.set 83 (LA 64 r))[83]? = some (LA 64 r) := hq_get k83
        have inner : ∀ (m' x : Nat) (row : Int64), x + m' = 64 → (∀ i, i < 64 → bb row i = (decide (i < x) && sp i y)) → hp_W G 114 [(0, .ref 75), (1, .int (nI L)), (2, .long av), (4, .int (zI oct)), (5, .int (zI !g)), (6, .int (nI d)), (7, .int (nI y)), (8, .long row), (10, .int (nI x))] [] (h3.set 83 (LA 64 r)) false 0 0 := by
          intro m'
          induction m' with
          | zero =>
            intro x row hx2 hrow
            have e : x = 64 := by omega
            subst e
            have hW := ih (y + 1) (vp_updL r y row) (by omega) (fun v i hv hi => by
              by_cases e : v = y
              · rw [e, pk_uLs, hrow i hi, decide_eq_true hi]
                rfl
              · rw [pk_uLn e]
                exact hg v i (by omega) hi)
            rw [← nI_1 y] at hW
            refine hp_run_sound hp_co V_mo_size C (fun _ _ _ _ _ _ _ hq => hq) [101] 14 _ _ _ _ _ _ _ ?_
            refine And.intro (fun c => ?_) (fun c => absurd (nI_le (Nat.le_refl 64) (by decide)) c)
            refine Exists.intro _ (And.intro hC4.1 ?_)
            refine Exists.intro 64 (Exists.intro r (And.intro j3 (And.intro (in64 hy64) ?_)))
            rw [cl64 hy64, hq_set]
            exact hp_W_pick [0, 1, 2, 4, 5, 6, 7] hW
          | succ m' im =>
            intro x row hx2 hrow
            have hx64 : x < 64 := by omega
            -- the answer for (x, y)
            have t179 : ∀ b, b = sp x y → hp_W G 179 [(0, .ref 75), (1, .int (nI L)), (2, .long av), (4, .int (zI oct)), (5, .int (zI !g)), (6, .int (nI d)), (7, .int (nI y)), (8, .long row), (10, .int (nI x)), (11, .int (zI b))] [] (h3.set 83 (LA 64 r)) false 0 0 := by
              intro b hb
              have nxt : ∀ row', (∀ i, i < 64 → bb row' i = (bb row i || (decide (i = x) && b))) → ∀ i, i < 64 → bb row' i = (decide (i < x + 1) && sp i y) := by
                intro row' hr i hi
                rw [hr i hi, hrow i hi]
                by_cases e : i = x
                · rw [e, decide_eq_true rfl, decide_eq_false (Nat.lt_irrefl x), decide_eq_true (Nat.lt_succ_self x), Bool.false_and, Bool.false_or, hb]
                · rw [decide_eq_false e, Bool.false_and, Bool.or_false, show decide (i < x + 1) = decide (i < x) from decide_eq_decide.mpr (by omega)]
              refine hp_run_sound hp_co V_mo_size C (fun _ _ _ _ _ _ _ hq => hq) [114] 14 _ _ _ _ _ _ _ ?_
              cases b with
              | false =>
                refine And.intro (fun _ => ?_) (fun q => absurd rfl q)
                have hW := im (x + 1) (row ||| 0) (by omega) (nxt _ (fun i hi => by rw [bb_or, bb_0, Bool.and_false]))
                rw [← nI_1 x] at hW
                exact hp_W_pick [0, 1, 2, 4, 5, 6, 7, 8, 10] hW
              | true =>
                refine And.intro (fun q => absurd q (by decide)) (fun _ => ?_)
                have hW := im (x + 1) (row ||| ((1 : Int64) <<< ((nI x).toInt64 &&& 63))) (by omega) (nxt _ (fun i hi => by rw [bb_or, bb_bit hx64 hi, Bool.and_true]))
                rw [← nI_1 x] at hW
                exact hp_W_pick [0, 1, 2, 4, 5, 6, 7, 8, 10] hW
            have rz : ∀ a b, rzb g f a b x y = rzb g F a b x y := fun a b => by
              unfold rzb
              rw [rzb_eq hr g a b hy64]
            have hsp : sp x y = if oct then (if g then rzb g f d (d / 2) x y || rzb g f (d / 2) d x y else rzb g f d (d / 2) x y && rzb g f (d / 2) d x y) else rzb g f d d x y := by
              rw [← hspd, rz, rz, rz]
            have hR := fun a b (ha : a ≤ 64) (hb : b ≤ 64) => c_mo_isRound l (h3.set 83 (LA 64 r)) s (0, u.2) x y a b (!g) hx64 hy64 ha hb f hC4.1 j1
            simp only [Bool.not_not] at hR
            refine hp_run_sound hp_co V_mo_size C (fun _ _ _ _ _ _ _ hq => hq) [179] 50 _ _ _ _ _ _ _ ?_
            refine And.intro (fun c => absurd c (nI_ge (b := 64) hx64 (by decide))) (fun c => ?_)
            have eh : nI d / hp_c 2 = nI (d / 2) := pk_div (d := 2) (by omega) (by decide) (by decide)
            cases oct with
            | false =>
              refine And.intro (fun _ => ?_) (fun q => absurd rfl q)
              refine And.intro ⟨3, _, hC4.1, rfl⟩ ?_
              refine ic_P (hR d d hd hd) (Nat.le_refl _) (Nat.le_refl _) ?_
              refine And.intro (fun _ => ?_) (fun q => absurd rfl q)
              exact t179 _ (by rw [hsp]; rfl)
            | true =>
              refine And.intro (fun q => absurd q (by decide)) (fun _ => ?_)
              refine And.intro (by decide) ?_
              refine And.intro ⟨3, _, hC4.1, rfl⟩ ?_
              have r1 := hR d (d / 2) hd (by omega)
              rw [← eh] at r1
              refine ic_P r1 (Nat.le_refl _) (Nat.le_refl _) ?_
              refine And.intro (fun q => absurd q (by decide)) (fun _ => ?_)
              refine And.intro (fun q => ?_) (fun q => ?_)
              · refine t179 _ ?_
                rw [hsp, if_pos rfl]
                have q1 : ¬ zI (rzb g f d (d / 2) x y) = zI !g := q
                cases g with
                | true =>
                  rw [if_pos rfl]
                  cases e : rzb true f d (d / 2) x y with
                  | true => rfl
                  | false => exact absurd (by rw [e]; rfl) q1
                | false =>
                  rw [if_neg (by decide)]
                  cases e : rzb false f d (d / 2) x y with
                  | false => rfl
                  | true => exact absurd (by rw [e]; rfl) q1
              · have q1 : rzb g f d (d / 2) x y = !g := zI_inj.mp q
                refine And.intro (by decide) ?_
                refine And.intro ⟨3, _, hC4.1, rfl⟩ ?_
                have r2 := hR (d / 2) d (by omega) hd
                rw [← eh] at r2
                refine ic_P r2 (Nat.le_refl _) (Nat.le_refl _) ?_
                refine t179 _ ?_
                rw [hsp, if_pos rfl, q1]
                cases g with
                | true => rw [if_pos rfl]; rfl
                | false => rw [if_neg (by decide)]; rfl
        refine hp_run_sound hp_co V_mo_size C (fun _ _ _ _ _ _ _ hq => hq) [114] 14 _ _ _ _ _ _ _ ?_
        refine And.intro (fun c => absurd c (nI_ge (b := 64) hy64 (by decide))) (fun c => ?_)
        exact inner 64 0 0 (by omega) (fun i hi => by rw [bb_0, decide_eq_false (Nat.not_lt_zero i)]; rfl)
    have h0 := key 64 0 e0 (by omega) (fun v i hv => absurd hv (Nat.not_lt_zero _))
    rw [hq_self k83] at h0
    refine hp_run_sound hp_co V_mo_size C (fun _ _ _ _ _ _ _ hq => hq) [101] 8 _ _ _ _ _ _ _ ?_
    exact h0
  have t65 : ∀ h1, moC h1 s (0, u.2) → hxM h h1 → hp_W G 65 [(0, .ref 75), (1, .int (nI L)), (2, .long av), (4, .int (zI oct))] [] h1 false 0 0 := by
    intro h1 hC1 hx1
    have t96 : ∀ h3 z, moC h3 s (0, u.2) → hxM h h3 → (∃ f, h3[81]? = some (LA 64 f) ∧ shw s L f) → z = nI d → hp_W G 96 [(0, .ref 75), (1, .int (nI L)), (2, .long av), (4, .int (zI oct)), (5, .int (zI !g))] [.int z] h3 false 0 0 := by
      intro h3 z hC3 hx3 hf hz
      obtain ⟨f, k1, s1⟩ := hf
      rw [hz]
      refine hp_run_sound hp_co V_mo_size C (fun _ _ _ _ _ _ _ hq => hq) [98] 2 _ _ _ _ _ _ _ ?_
      exact t98 h3 f hC3 k1 s1 hx3
    refine hp_run_sound hp_co V_mo_size C (fun _ _ _ _ _ _ _ hq => hq) [96] 30 _ _ _ _ _ _ _ ?_
    refine And.intro ⟨3, _, hC1.1, rfl⟩ ?_
    refine ic_Q (c_mo_load l h1 s (0, u.2) L true hO hL hC1) (Nat.le_refl _) (Nat.le_refl _) (fun r h2 hq => ?_)
    obtain ⟨rfl, f1, rfl, s1⟩ := hq
    obtain ⟨y1, k1⟩ := mw_at hC1.2.2 (lw_or true)
    have hC2 := moC_81 hC1 f1 (lw_or true)
    have hx2 := hxM_set hx1 (LA 64 f1) (show 75 ≤ 81 ∧ 81 < 89 by omega)
    cases g with
    | true =>
      refine And.intro (fun _ => ?_) (fun q => absurd ((lg_cmp_ge _ _).mpr (Int64.not_lt.mp (fun c => by cases z4.mp c))) q)
      refine And.intro (fun _ => ?_) (fun q => absurd rfl q)
      exact t96 _ _ hC2 hx2 ⟨f1, hq_get k1, s1⟩ z5
    | false =>
      refine And.intro (fun q => absurd (z4.mpr rfl) (Int64.not_lt.mpr ((lg_cmp_ge _ _).mp q))) (fun _ => ?_)
      refine And.intro (fun q => absurd q (by decide)) (fun _ => ?_)
      exact t96 _ _ hC2 hx2 ⟨f1, hq_get k1, s1⟩ z5
  refine hp_run_sound hp_co V_mo_size C (fun _ _ _ _ _ _ _ hq => hq) [65] 30 _ _ _ _ _ _ _ ?_
  refine Exists.intro _ (And.intro hC.1 ?_)
  refine And.intro (fun _ => ?_) (fun q => absurd ((nI_eq (b := 24) (by omega) (by decide)).mp q) (by omega))
  refine And.intro (fun q => absurd ((lg_cmp_eq _ _).mp q) z1) (fun _ => And.intro (fun q => absurd ((lg_cmp_lt _ _).mp q) z2) (fun _ => And.intro (fun _ => ?_) (fun q => absurd ((lg_cmp_le _ _).mpr z3) q)))
  refine And.intro (Or.inl rfl) (Exists.intro _ (And.intro hC.1 (And.intro (Nat.le_of_ble_eq_true rfl) (And.intro rfl (And.intro rfl ?_)))))
  refine Exists.intro _ (And.intro (hq_get hC.1) ?_)
  refine And.intro (fun q => ?_) (fun q => absurd (show (0 : Int32) ≤ 0 by decide) q)
  exact t65 _ (moC_cd hC 0) (hxM_75 h _)
