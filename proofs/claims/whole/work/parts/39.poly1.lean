/-! Polygons -/
abbrev PO (c : Nat) : hp_C := .inr (1, [.int (nI c), .ref 3, .ref 4, .ref 5, .ref 22, .ref 39])
abbrev OA (n b : Nat) : hp_C := .inl (.array .int, n, .inr (.inr (.inr (.inr (fun p => some (b + p))))))
def poS (h : hp_H) (c : Nat) (lay k : Nat → Nat) (X Y : Nat → Nat → Nat) : Prop :=
  h[2]? = some (PO c) ∧ h[3]? = some (NA 16 lay) ∧ h[4]? = some (NA 16 k) ∧ h[5]? = some (OA 16 6) ∧ (∀ p, p < 16 → h[6 + p]? = some (NA 16 (X p))) ∧ h[22]? = some (OA 16 23) ∧ ∀ p, p < 16 → h[23 + p]? = some (NA 16 (Y p))
theorem poS_hx {ps : List Nat} {h h' : hp_H} {c : Nat} {lay k : Nat → Nat} {X Y : Nat → Nat → Nat} (hS : poS h c lay k X Y) (hH : hx ps h h') (hn : ∀ q ∈ ps, 39 ≤ q) : poS h' c lay k X Y := by
  obtain ⟨a1, a2, a3, a4, a5, a6, a7⟩ := hS
  have hm : ∀ q, q < 39 → q ∉ ps := fun q hq e => absurd (hn q e) (by omega)
  exact ⟨hx_at hH (hm _ (by omega)) a1, hx_at hH (hm _ (by omega)) a2, hx_at hH (hm _ (by omega)) a3, hx_at hH (hm _ (by omega)) a4, fun p hp => hx_at hH (hm _ (by omega)) (a5 p hp), hx_at hH (hm _ (by omega)) a6, fun p hp => hx_at hH (hm _ (by omega)) (a7 p hp)⟩
set_option maxRecDepth 20000 in
theorem c_po_isFull (l : Launch) (h : hp_H) (c : Nat) (hc : c ≤ 16) (hp : h[2]? = some (PO c)) : hp_M l Y_po_isFull [.ref 2] h true 0 0 (hq_P (.inl (some (.int (zI (decide (16 ≤ c)))))) h) := by
  refine hp_start (T := T_po_isFull) (by decide) rfl (fun σ => Nat.le_of_ble_eq_true rfl) (fun G C => ?_)
  refine hp_run_sound hp_co V_po_isFull C (fun _ _ _ _ _ _ _ hq => hq) [] 10 _ _ _ _ _ _ _ ?_
  refine Exists.intro _ (And.intro hp ?_)
  refine And.intro (fun q => ?_) (fun q => ?_)
  · have e : ¬ 16 ≤ c := by have := (nI_ltI (b := 16) (by omega) (by decide)).mp q; omega
    rw [decide_eq_false e]
    exact And.intro rfl (And.intro rfl (And.intro rfl rfl))
  · have e : 16 ≤ c := by
      rcases Nat.lt_or_ge c 16 with q2 | q2
      · exact absurd (nI_lt (b := 16) q2 (by decide)) q
      · exact q2
    rw [decide_eq_true e]
    exact And.intro rfl (And.intro rfl (And.intro rfl rfl))
set_option maxRecDepth 20000 in
theorem c_po_has (l : Launch) (h : hp_H) (c : Nat) (x : Int32) (hp : h[2]? = some (PO c)) : hp_M l Y_po_has [.ref 2, .int x] h true 0 0 (hq_P (.inl (some (.int (zI (decide (¬ x < 0 ∧ ¬ nI c ≤ x)))))) h) := by
  refine hp_start (T := T_po_has) (by decide) rfl (fun σ => Nat.le_of_ble_eq_true rfl) (fun G C => ?_)
  refine hp_run_sound hp_co V_po_has C (fun _ _ _ _ _ _ _ hq => hq) [] 12 _ _ _ _ _ _ _ ?_
  refine And.intro (fun q => ?_) (fun q => Exists.intro _ (And.intro hp (And.intro (fun q2 => ?_) (fun q2 => ?_))))
  · rw [decide_eq_false (fun e => e.1 q)]
    exact And.intro rfl (And.intro rfl (And.intro rfl rfl))
  · rw [decide_eq_false (fun e => e.2 q2)]
    exact And.intro rfl (And.intro rfl (And.intro rfl rfl))
  · rw [decide_eq_true ⟨q, q2⟩]
    exact And.intro rfl (And.intro rfl (And.intro rfl rfl))
set_option maxRecDepth 20000 in
theorem c_po_hasAllCorners (l : Launch) (h : hp_H) (c p : Nat) (hpp : p < 16) (k : Nat → Nat) (hk : k p ≤ 16) (hp : h[2]? = some (PO c)) (h4 : h[4]? = some (NA 16 k)) : hp_M l Y_po_hasAllCorners [.ref 2, .int (nI p)] h true 0 0 (hq_P (.inl (some (.int (zI (decide (16 ≤ k p)))))) h) := by
  refine hp_start (T := T_po_hasAllCorners) (by decide) rfl (fun σ => Nat.le_of_ble_eq_true rfl) (fun G C => ?_)
  refine hp_run_sound hp_co V_po_hasAllCorners C (fun _ _ _ _ _ _ _ hq => hq) [] 12 _ _ _ _ _ _ _ ?_
  refine Exists.intro _ (And.intro hp ?_)
  refine Exists.intro .int (Exists.intro 16 (Exists.intro _ (And.intro (Or.inl rfl) (And.intro h4 (And.intro (in_nI hpp (by decide)) ?_)))))
  rw [nI_clamp (by omega)]
  refine And.intro (fun q => ?_) (fun q => ?_)
  · have e : ¬ 16 ≤ k p := by have := (nI_ltI (b := 16) (by omega) (by decide)).mp q; omega
    rw [decide_eq_false e]
    exact And.intro rfl (And.intro rfl (And.intro rfl rfl))
  · have e : 16 ≤ k p := by
      rcases Nat.lt_or_ge (k p) 16 with q2 | q2
      · exact absurd (nI_lt (b := 16) q2 (by decide)) q
      · exact q2
    rw [decide_eq_true e]
    exact And.intro rfl (And.intro rfl (And.intro rfl rfl))
set_option maxRecDepth 20000 in
theorem c_po_start (l : Launch) (h : hp_H) (c L : Nat) (hc : c < 16) (lay k : Nat → Nat) (X Y : Nat → Nat → Nat) (hS : poS h c lay k X Y) :
    hp_M l Y_po_start [.ref 2, .int (nI L)] h false 0 0 (fun q h' => q = .inl (some (.int (nI c))) ∧ hx [2, 3, 4] h h' ∧ poS h' (c + 1) (updN lay c L) (updN k c 0) X Y) := by
  refine hp_start (T := T_po_start) (by decide) rfl (fun σ => Nat.le_of_ble_eq_true rfl) (fun G C => ?_)
  obtain ⟨a1, a2, a3, a4, a5, a6, a7⟩ := hS
  refine hp_run_sound hp_co V_po_start C (fun _ _ _ _ _ _ _ hq => hq) [] 30 _ _ _ _ _ _ _ ?_
  refine Exists.intro _ (And.intro a1 ?_)
  refine Exists.intro _ (And.intro a1 ?_)
  refine Exists.intro 16 (Exists.intro _ (And.intro a2 (And.intro (in_nI hc (by decide)) ?_)))
  refine Exists.intro _ (And.intro (by rw [hq_ne (by decide)]; exact a1) ?_)
  refine Exists.intro 16 (Exists.intro _ (And.intro (by rw [hq_ne (by decide)]; exact a3) (And.intro (in_nI hc (by decide)) ?_)))
  refine Exists.intro _ (And.intro (by rw [hq_ne (by decide), hq_ne (by decide)]; exact a1) ?_)
  refine And.intro (Or.inl rfl) (Exists.intro _ (And.intro (by rw [hq_ne (by decide), hq_ne (by decide)]; exact a1) (And.intro (Nat.le_of_ble_eq_true rfl) (And.intro rfl (And.intro rfl ?_)))))
  rw [nI_clamp (by omega)]
  have x0 : hx [2, 3, 4] h (((h.set 3 (NA 16 (updN lay c L))).set 4 (NA 16 (updN k c 0))).set 2 (PO (c + 1))) := hx_set (hx_set (hx_set (hx_rf _ _) _ (by decide)) _ (by decide)) _ (by decide)
  have hS' : poS (((h.set 3 (NA 16 (updN lay c L))).set 4 (NA 16 (updN k c 0))).set 2 (PO (c + 1))) (c + 1) (updN lay c L) (updN k c 0) X Y := by
    have hm : ∀ q, 4 < q → q ∉ [2, 3, 4] := fun q hq e => by simp at e; omega
    refine ⟨hq_get (by rw [hq_ne (by decide), hq_ne (by decide)]; exact a1), ?_, ?_, hx_at x0 (hm _ (by omega)) a4, fun p hp => hx_at x0 (hm _ (by omega)) (a5 p hp), hx_at x0 (hm _ (by omega)) a6, fun p hp => hx_at x0 (hm _ (by omega)) (a7 p hp)⟩
    · rw [hq_ne (by decide), hq_ne (by decide)]; exact hq_get a2
    · rw [hq_ne (by decide)]; exact hq_get (by rw [hq_ne (by decide)]; exact a3)
  have hfin := And.intro x0 hS'
  rw [NA_upd, NA_upd] at hfin
  unfold PO at hfin
  rw [← nI_1 c] at hfin
  exact And.intro rfl (And.intro rfl (And.intro rfl hfin))
set_option maxRecDepth 20000 in
theorem c_po_forget (l : Launch) (h : hp_H) (c : Nat) (hp : h[2]? = some (PO c)) : hp_M l Y_po_forget [.ref 2] h false 0 0 (hq_P (.inl none) (h.set 2 (PO 0))) := by
  refine hp_start (T := T_po_forget) (by decide) rfl (fun σ => Nat.le_of_ble_eq_true rfl) (fun G C => ?_)
  refine hp_run_sound hp_co V_po_forget C (fun _ _ _ _ _ _ _ hq => hq) [] 10 _ _ _ _ _ _ _ ?_
  refine And.intro (Or.inl rfl) (Exists.intro _ (And.intro hp (And.intro (Nat.le_of_ble_eq_true rfl) (And.intro rfl (And.intro rfl ?_)))))
  exact And.intro rfl (And.intro rfl (And.intro rfl rfl))
/-! corners -/
def dif (X Y : Nat → Nat → Nat) (p j x y : Nat) : Bool := (!decide (X p j = x)) ^^ (!decide (Y p j = y))
set_option maxRecDepth 20000 in
theorem c_po_differInOne (l : Launch) (h : hp_H) (c p j x y : Nat) (hpp : p < 16) (hj : j < 16) (lay k : Nat → Nat) (X Y : Nat → Nat → Nat) (hx1 : X p j < 2 ^ 31) (hy1 : Y p j < 2 ^ 31) (hx2 : x < 2 ^ 31) (hy2 : y < 2 ^ 31) (hS : poS h c lay k X Y) :
    hp_M l Y_po_differInOne [.ref 2, .int (nI p), .int (nI j), .int (nI x), .int (nI y)] h true 0 0 (hq_P (.inl (some (.int (zI (dif X Y p j x y))))) h) := by
  refine hp_start (T := T_po_differInOne) (by decide) rfl (fun σ => Nat.le_of_ble_eq_true rfl) (fun G C => ?_)
  obtain ⟨a1, a2, a3, a4, a5, a6, a7⟩ := hS
  have t2 : ∀ b1 b2 : Bool, (b1 ^^ b2) = dif X Y p j x y → hp_W G 35 [(0, .ref 2), (1, .int (nI p)), (2, .int (nI j)), (3, .int (nI x)), (4, .int (nI y))] [.int (zI b2), .int (zI b1)] h true 0 0 := by
    intro b1 b2 hb
    refine hp_run_sound hp_co V_po_differInOne C (fun _ _ _ _ _ _ _ hq => hq) [] 10 _ _ _ _ _ _ _ ?_
    refine And.intro (fun q => ?_) (fun q => ?_)
    · refine And.intro rfl (And.intro rfl (And.intro ?_ rfl))
      rw [← hb, zI_inj.mp q, Bool.xor_self]
      rfl
    · have e : (b1 ^^ b2) = true := by
        cases b1 <;> cases b2 <;> first | rfl | exact absurd rfl q
      refine And.intro rfl (And.intro rfl (And.intro ?_ rfl))
      rw [← hb, e]
      rfl
  have t1 : ∀ b1 : Bool, b1 = (!decide (X p j = x)) → hp_W G 17 [(0, .ref 2), (1, .int (nI p)), (2, .int (nI j)), (3, .int (nI x)), (4, .int (nI y))] [.int (zI b1)] h true 0 0 := by
    intro b1 hb
    refine hp_run_sound hp_co V_po_differInOne C (fun _ _ _ _ _ _ _ hq => hq) [35] 20 _ _ _ _ _ _ _ ?_
    refine Exists.intro _ (And.intro a1 ?_)
    refine Exists.intro _ (Exists.intro 16 (Exists.intro _ (And.intro a6 (And.intro (in_nI hpp (by decide)) ?_))))
    rw [nI_clamp (show p < 2 ^ 31 by omega)]
    refine Exists.intro .int (Exists.intro 16 (Exists.intro _ (And.intro (Or.inl rfl) (And.intro (a7 p hpp) (And.intro (in_nI hj (by decide)) ?_)))))
    rw [nI_clamp (show j < 2 ^ 31 by omega)]
    refine And.intro (fun q => ?_) (fun q => ?_)
    · refine t2 b1 false ?_
      unfold dif
      rw [hb, decide_eq_true ((nI_eq hy1 hy2).mp q)]
      rfl
    · refine t2 b1 true ?_
      unfold dif
      rw [hb, decide_eq_false (p := Y p j = y) (fun e => q (by rw [e]))]
      rfl
  refine hp_run_sound hp_co V_po_differInOne C (fun _ _ _ _ _ _ _ hq => hq) [17] 20 _ _ _ _ _ _ _ ?_
  refine Exists.intro _ (And.intro a1 ?_)
  refine Exists.intro _ (Exists.intro 16 (Exists.intro _ (And.intro a4 (And.intro (in_nI hpp (by decide)) ?_))))
  rw [nI_clamp (show p < 2 ^ 31 by omega)]
  refine Exists.intro .int (Exists.intro 16 (Exists.intro _ (And.intro (Or.inl rfl) (And.intro (a5 p hpp) (And.intro (in_nI hj (by decide)) ?_)))))
  rw [nI_clamp (show j < 2 ^ 31 by omega)]
  refine And.intro (fun q => ?_) (fun q => ?_)
  · refine t1 false ?_
    rw [decide_eq_true ((nI_eq hx1 hx2).mp q)]
    rfl
  · refine t1 true ?_
    rw [decide_eq_false (fun e => q (by rw [e]))]
    rfl
set_option maxRecDepth 20000 in
theorem c_po_extend_no (l : Launch) (h : hp_H) (c p x y : Nat) (hpp : p < 16) (hx2 : x < 2 ^ 31) (hy2 : y < 2 ^ 31) (lay k : Nat → Nat) (X Y : Nat → Nat → Nat) (hk : k p < 16) (hk0 : 0 < k p) (hxb : X p (k p - 1) < 2 ^ 31) (hyb : Y p (k p - 1) < 2 ^ 31) (hd : dif X Y p (k p - 1) x y = false) (hS : poS h c lay k X Y) :
    hp_M l Y_po_extend [.ref 2, .int (nI p), .int (nI x), .int (nI y)] h true 0 0 (hq_P (.inl (some (.int 0))) h) := by
  refine hp_start (T := T_po_extend) (by decide) rfl (fun σ => Nat.le_of_ble_eq_true rfl) (fun G C => ?_)
  obtain ⟨a1, a2, a3, a4, a5, a6, a7⟩ := id hS
  refine hp_run_sound hp_co V_po_extend C (fun _ _ _ _ _ _ _ hq => hq) [29] 30 _ _ _ _ _ _ _ ?_
  refine Exists.intro _ (And.intro a1 ?_)
  refine Exists.intro .int (Exists.intro 16 (Exists.intro _ (And.intro (Or.inl rfl) (And.intro a3 (And.intro (in_nI hpp (by decide)) ?_)))))
  rw [nI_clamp (show p < 2 ^ 31 by omega)]
  refine And.intro (fun q => absurd q (nI_nle hk0 (by omega))) (fun q => ?_)
  refine And.intro ⟨1, _, a1, rfl⟩ ?_
  rw [show nI (k p) - hp_c 1 = nI (k p - 1) from pk_sub (b := 1) hk0]
  refine ic_P (c_po_differInOne l h c p (k p - 1) x y hpp (by omega) lay k X Y hxb hyb hx2 hy2 hS) (Nat.le_refl _) (Nat.le_refl _) ?_
  rw [hd]
  refine And.intro (fun q => absurd rfl q) (fun q => ?_)
  exact And.intro rfl (And.intro rfl (And.intro rfl rfl))
def updF (X : Nat → Nat → Nat) (p : Nat) (r : Nat → Nat) : Nat → Nat → Nat := fun v => if v = p then r else X v
theorem updF_s (X : Nat → Nat → Nat) (p : Nat) (r : Nat → Nat) : updF X p r p = r := if_pos rfl
theorem updF_n (X : Nat → Nat → Nat) {p v : Nat} (r : Nat → Nat) (h : v ≠ p) : updF X p r v = X v := if_neg h
theorem po_ne {p q : Nat} (hp : p < 16) (hq : q < 16) : 6 + p ≠ 23 + q := by omega
set_option maxRecDepth 20000 in
theorem c_po_extend (l : Launch) (h : hp_H) (c p x y : Nat) (hpp : p < 16) (hx2 : x < 2 ^ 31) (hy2 : y < 2 ^ 31) (lay k : Nat → Nat) (X Y : Nat → Nat → Nat) (hk : k p < 16) (hxb : X p (k p - 1) < 2 ^ 31) (hyb : Y p (k p - 1) < 2 ^ 31) (hd : k p = 0 ∨ dif X Y p (k p - 1) x y = true) (hS : poS h c lay k X Y) :
    hp_M l Y_po_extend [.ref 2, .int (nI p), .int (nI x), .int (nI y)] h false 0 0 (fun q h' => q = .inl (some (.int 1)) ∧ hx [4, 6 + p, 23 + p] h h' ∧ poS h' c lay (updN k p (k p + 1)) (updF X p (updN (X p) (k p) x)) (updF Y p (updN (Y p) (k p) y))) := by
  refine hp_start (T := T_po_extend) (by decide) rfl (fun σ => Nat.le_of_ble_eq_true rfl) (fun G C => ?_)
  obtain ⟨a1, a2, a3, a4, a5, a6, a7⟩ := id hS
  have tail : hp_W G 29 [(0, .ref 2), (1, .int (nI p)), (2, .int (nI x)), (3, .int (nI y)), (4, .int (nI (k p)))] [] h true 0 0 := by
    refine hp_run_sound hp_co V_po_extend C (fun _ _ _ _ _ _ _ hq => hq) [] 40 _ _ _ _ _ _ _ ?_
    have n1 : ∀ q, q < 6 ∨ 22 ≤ q → 6 + p ≠ q := fun q hq => by omega
    have n2 : ∀ q, q < 23 → 23 + p ≠ q := fun q hq => by omega
    refine Exists.intro _ (And.intro a1 ?_)
    refine Exists.intro _ (Exists.intro 16 (Exists.intro _ (And.intro a4 (And.intro (in_nI hpp (by decide)) ?_))))
    rw [nI_clamp (show p < 2 ^ 31 by omega)]
    refine Exists.intro 16 (Exists.intro _ (And.intro (a5 p hpp) (And.intro (in_nI hk (by decide)) ?_)))
    rw [nI_clamp (show k p < 2 ^ 31 by omega)]
    refine Exists.intro _ (And.intro (by rw [hq_ne (n1 _ (by omega))]; exact a1) ?_)
    refine Exists.intro _ (Exists.intro 16 (Exists.intro _ (And.intro (by rw [hq_ne (n1 _ (by omega))]; exact a6) (And.intro (in_nI hpp (by decide)) ?_))))
    rw [nI_clamp (show p < 2 ^ 31 by omega)]
    refine Exists.intro 16 (Exists.intro _ (And.intro (by rw [hq_ne (n1 _ (by omega))]; exact a7 p hpp) (And.intro (in_nI hk (by decide)) ?_)))
    rw [nI_clamp (show k p < 2 ^ 31 by omega)]
    refine Exists.intro _ (And.intro (by rw [hq_ne (n2 _ (by omega)), hq_ne (n1 _ (by omega))]; exact a1) ?_)
    refine Exists.intro 16 (Exists.intro _ (And.intro (by rw [hq_ne (n2 _ (by omega)), hq_ne (n1 _ (by omega))]; exact a3) (And.intro (in_nI hpp (by decide)) ?_)))
    rw [nI_clamp (show p < 2 ^ 31 by omega)]
    refine And.intro rfl (And.intro rfl (And.intro rfl ?_))
    have x0 : hx [4, 6 + p, 23 + p] h (((h.set (6 + p) (NA 16 (updN (X p) (k p) x))).set (23 + p) (NA 16 (updN (Y p) (k p) y))).set 4 (NA 16 (updN k p (k p + 1)))) := hx_set (hx_set (hx_set (hx_rf _ _) _ (by simp)) _ (by simp)) _ (by simp)
    have hm : ∀ q, q ≠ 4 → q ≠ 6 + p → q ≠ 23 + p → q ∉ [4, 6 + p, 23 + p] := fun q q1 q2 q3 e => by simp at e; omega
    have hS' : poS (((h.set (6 + p) (NA 16 (updN (X p) (k p) x))).set (23 + p) (NA 16 (updN (Y p) (k p) y))).set 4 (NA 16 (updN k p (k p + 1)))) c lay (updN k p (k p + 1)) (updF X p (updN (X p) (k p) x)) (updF Y p (updN (Y p) (k p) y)) := by
      refine ⟨hx_at x0 (hm _ (by omega) (by omega) (by omega)) a1, hx_at x0 (hm _ (by omega) (by omega) (by omega)) a2, ?_, hx_at x0 (hm _ (by omega) (by omega) (by omega)) a4, fun v hv => ?_, hx_at x0 (hm _ (by omega) (by omega) (by omega)) a6, fun v hv => ?_⟩
      · exact hq_get (by rw [hq_ne (n2 _ (by omega)), hq_ne (n1 _ (by omega))]; exact a3)
      · by_cases e : v = p
        · subst e
          rw [updF_s, hq_ne (by omega), hq_ne (by omega)]
          exact hq_get (a5 v hv)
        · rw [updF_n _ _ e]
          exact hx_at x0 (hm _ (by omega) (by omega) (by omega)) (a5 v hv)
      · by_cases e : v = p
        · subst e
          rw [updF_s, hq_ne (by omega)]
          exact hq_get (by rw [hq_ne (by omega)]; exact a7 v hv)
        · rw [updF_n _ _ e]
          exact hx_at x0 (hm _ (by omega) (by omega) (by omega)) (a7 v hv)
    have hfin := And.intro x0 hS'
    rw [NA_upd, NA_upd, NA_upd, ← nI_1 (k p)] at hfin
    exact hfin
  refine hp_run_sound hp_co V_po_extend C (fun _ _ _ _ _ _ _ hq => hq) [29] 30 _ _ _ _ _ _ _ ?_
  refine Exists.intro _ (And.intro a1 ?_)
  refine Exists.intro .int (Exists.intro 16 (Exists.intro _ (And.intro (Or.inl rfl) (And.intro a3 (And.intro (in_nI hpp (by decide)) ?_)))))
  rw [nI_clamp (show p < 2 ^ 31 by omega)]
  refine And.intro (fun q => tail) (fun q => ?_)
  have hk0 : 0 < k p := by
    rcases Nat.eq_zero_or_pos (k p) with e | e
    · exact absurd (by rw [e]; decide) q
    · exact e
  refine And.intro ⟨1, _, a1, rfl⟩ ?_
  rw [show nI (k p) - hp_c 1 = nI (k p - 1) from pk_sub (b := 1) hk0]
  refine ic_P (c_po_differInOne l h c p (k p - 1) x y hpp (by omega) lay k X Y hxb hyb hx2 hy2 hS) (Nat.le_refl _) (Nat.le_refl _) ?_
  rw [show dif X Y p (k p - 1) x y = true by rcases hd with e | e; omega; exact e]
  exact And.intro (fun q => tail) (fun q => absurd q (by decide))
