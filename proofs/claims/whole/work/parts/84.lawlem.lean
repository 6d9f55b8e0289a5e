/-! the law's state; what a call leaves as it was -/
def lwS (L : Nat) (xs : Nat → Int32) (h : hp_H) (s : St) : Prop := stOK s ∧ h[0]? = some (.inl (.float, L, .inl xs)) ∧ esS h s ∧ (∃ cd, moS h s cd) ∧ ∃ o, h[89]? = some (LA 1 o)
def hxW (h h' : hp_H) : Prop := h'.length = h.length ∧ ∀ q, (q = 0 ∨ (75 ≤ q ∧ q ≠ 89)) → h'[q]? = h[q]?
theorem esS_far {h h' : hp_H} {s : St} (hq : ∀ q, 1 ≤ q → q < 75 → h'[q]? = h[q]?) (hS : esS h s) : esS h' s := by
  obtain ⟨a1, ⟨b1, b2, b3, b4, b5, b6, b7⟩, a3, a4, ⟨w1, v1⟩, ⟨w2, u2, v2⟩, ⟨w3, v3⟩, ⟨w4, v4⟩, ⟨w5, v5⟩, ⟨w6, v6⟩, ⟨w7, v7⟩, ⟨w8, v8⟩, ⟨w9, v9⟩, ⟨w10, v10⟩, ⟨w11, v11⟩⟩ := hS
  have t : ∀ q, 1 ≤ q → q < 75 → ∀ {c : hp_C}, h[q]? = some c → h'[q]? = some c := fun q h1 h2 c hc => (hq q h1 h2).trans hc
  exact ⟨t _ (by omega) (by omega) a1, ⟨t _ (by omega) (by omega) b1, t _ (by omega) (by omega) b2, t _ (by omega) (by omega) b3, t _ (by omega) (by omega) b4, fun p hp => t _ (by omega) (by omega) (b5 p hp), t _ (by omega) (by omega) b6, fun p hp => t _ (by omega) (by omega) (b7 p hp)⟩, t _ (by omega) (by omega) a3, fun i hi => t _ (by omega) (by omega) (a4 i hi), ⟨w1, t _ (by omega) (by omega) v1⟩, ⟨w2, u2, t _ (by omega) (by omega) v2⟩, ⟨w3, t _ (by omega) (by omega) v3⟩, ⟨w4, t _ (by omega) (by omega) v4⟩, ⟨w5, t _ (by omega) (by omega) v5⟩, ⟨w6, t _ (by omega) (by omega) v6⟩, ⟨w7, t _ (by omega) (by omega) v7⟩, ⟨w8, t _ (by omega) (by omega) v8⟩, ⟨w9, t _ (by omega) (by omega) v9⟩, ⟨w10, t _ (by omega) (by omega) v10⟩, ⟨w11, t _ (by omega) (by omega) v11⟩⟩
theorem esS_hxM {h h' : hp_H} {s : St} (hS : esS h s) (hx2 : hxM h h') : esS h' s := esS_far (fun q _ h2 => hx2.2 q (Or.inl h2)) hS
theorem esS_89 {h : hp_H} {s : St} (hS : esS h s) (c : hp_C) : esS (h.set 89 c) s := esS_far (fun q _ h2 => hq_ne (by omega)) hS
theorem moS_hxW {h h' : hp_H} {s : St} {cd : Int32} (hS : moS h s cd) (hx2 : hxW h h') : moS h' s cd := by
  obtain ⟨u, hu, a1, ⟨b1, b2, b3, b4, b5⟩, ⟨f1, c1⟩, ⟨f2, c2⟩, ⟨f3, c3⟩, ⟨f4, c4⟩, ⟨f5, c5⟩, ⟨f6, c6⟩, ⟨f7, c7⟩, ⟨f8, c8⟩⟩ := hS
  have t : ∀ q, 75 ≤ q → q < 89 → ∀ {c : hp_C}, h[q]? = some c → h'[q]? = some c := fun q h1 h2 c hc => (hx2.2 q (Or.inr ⟨h1, by omega⟩)).trans hc
  exact ⟨u, hu, t _ (by omega) (by omega) a1, ⟨t _ (by omega) (by omega) b1, t _ (by omega) (by omega) b2, t _ (by omega) (by omega) b3, t _ (by omega) (by omega) b4, t _ (by omega) (by omega) b5⟩, ⟨f1, t _ (by omega) (by omega) c1⟩, ⟨f2, t _ (by omega) (by omega) c2⟩, ⟨f3, t _ (by omega) (by omega) c3⟩, ⟨f4, t _ (by omega) (by omega) c4⟩, ⟨f5, t _ (by omega) (by omega) c5⟩, ⟨f6, t _ (by omega) (by omega) c6⟩, ⟨f7, t _ (by omega) (by omega) c7⟩, ⟨f8, t _ (by omega) (by omega) c8⟩⟩
theorem hxW_C {h h' : hp_H} (a : hxC h h') : hxW h h' := ⟨a.1, fun q hq => a.2 q (by omega)⟩
theorem hxW_89 {h h' : hp_H} (a : hxC h h') (c : hp_C) : hxW h (h'.set 89 c) := ⟨by rw [List.length_set]; exact a.1, fun q hq => by rw [hq_ne (by omega)]; exact a.2 q (by omega)⟩
theorem wr_i {N : Nat → Int32 → St → Prop} (cv : Int32 → Int64) {h : hp_H} {ou : Nat → Int64} (h89 : h[89]? = some (LA 1 ou)) {H : Nat} (hN : ∀ c x s', N c x s' → c ≤ H) {r : hp_R} {h' : hp_H} (hq : ∃ c x s', N c x s' ∧ ans c (.int x) r ∧ hxC h h' ∧ esS h' s') :
    (∃ v, r = .inl (some (.int v)) ∧ h'[89]? = some (LA 1 ou) ∧ ∃ c x s' o', N c x s' ∧ (.inl (some (.int 0)) : hp_R) = .inl (some (.int (nI c))) ∧ esS (h'.set 89 (LA 1 (vp_updL ou 0 (cv v)))) s' ∧ (h'.set 89 (LA 1 (vp_updL ou 0 (cv v))))[89]? = some (LA 1 o') ∧ (c = 0 → o' 0 = cv x) ∧ hxW h (h'.set 89 (LA 1 (vp_updL ou 0 (cv v))))) ∨
    ∃ c, c < H ∧ r = .inr c ∧ ∃ c1 x s' o', N c1 x s' ∧ (.inl (some (.int (nI (c + 1)))) : hp_R) = .inl (some (.int (nI c1))) ∧ esS h' s' ∧ h'[89]? = some (LA 1 o') ∧ (c1 = 0 → o' 0 = cv x) ∧ hxW h h' := by
  obtain ⟨c, x, s', hN1, ha, hxc, hes⟩ := hq
  have k89 : h'[89]? = some (LA 1 ou) := (hxc.2 89 (Or.inr (by decide))).trans h89
  cases c with
  | zero => exact Or.inl ⟨x, ha, k89, 0, x, s', _, hN1, rfl, esS_89 hes _, hq_get k89, fun _ => pk_uLs, hxW_89 hxc _⟩
  | succ c => exact Or.inr ⟨c, hN _ _ _ hN1, ha, c + 1, x, s', ou, hN1, rfl, hes, k89, fun q => by omega, hxW_C hxc⟩
theorem wr_l {N : Nat → Int64 → St → Prop} (cv : Int64 → Int64) {h : hp_H} {ou : Nat → Int64} (h89 : h[89]? = some (LA 1 ou)) {H : Nat} (hN : ∀ c x s', N c x s' → c ≤ H) {r : hp_R} {h' : hp_H} (hq : ∃ c x s', N c x s' ∧ ans c (.long x) r ∧ hxC h h' ∧ esS h' s') :
    (∃ v, r = .inl (some (.long v)) ∧ h'[89]? = some (LA 1 ou) ∧ ∃ c x s' o', N c x s' ∧ (.inl (some (.int 0)) : hp_R) = .inl (some (.int (nI c))) ∧ esS (h'.set 89 (LA 1 (vp_updL ou 0 (cv v)))) s' ∧ (h'.set 89 (LA 1 (vp_updL ou 0 (cv v))))[89]? = some (LA 1 o') ∧ (c = 0 → o' 0 = cv x) ∧ hxW h (h'.set 89 (LA 1 (vp_updL ou 0 (cv v))))) ∨
    ∃ c, c < H ∧ r = .inr c ∧ ∃ c1 x s' o', N c1 x s' ∧ (.inl (some (.int (nI (c + 1)))) : hp_R) = .inl (some (.int (nI c1))) ∧ esS h' s' ∧ h'[89]? = some (LA 1 o') ∧ (c1 = 0 → o' 0 = cv x) ∧ hxW h h' := by
  obtain ⟨c, x, s', hN1, ha, hxc, hes⟩ := hq
  have k89 : h'[89]? = some (LA 1 ou) := (hxc.2 89 (Or.inr (by decide))).trans h89
  cases c with
  | zero => exact Or.inl ⟨x, ha, k89, 0, x, s', _, hN1, rfl, esS_89 hes _, hq_get k89, fun _ => pk_uLs, hxW_89 hxc _⟩
  | succ c => exact Or.inr ⟨c, hN _ _ _ hN1, ha, c + 1, x, s', ou, hN1, rfl, hes, k89, fun q => by omega, hxW_C hxc⟩
set_option maxRecDepth 20000 in
theorem c_la_cell (l : Launch) (h : hp_H) (L : Nat) (xs : Nat → Int32) (hL : L < 2 ^ 31) (h0 : h[0]? = some (.inl (.float, L, .inl xs))) : hp_M l Y_la_cell [.ref 0, .int 0] h true 0 0 (hq_P (.inl (some (.int (if L = 0 then 0 else xs 0)))) h) := by
  refine hp_start (T := T_la_cell) (by decide) rfl (fun σ => Nat.le_of_ble_eq_true rfl) (fun G C => ?_)
  refine hp_run_sound hp_co V_la_cell C (fun _ _ _ _ _ _ _ hq => hq) [] 10 _ _ _ _ _ _ _ ?_
  refine Exists.intro .float (Exists.intro L (Exists.intro _ (And.intro h0 ?_)))
  refine And.intro (fun q => ?_) (fun q => ?_)
  · have e : L = 0 := by
      rcases Nat.eq_zero_or_pos L with c | c
      · exact c
      · exact absurd (show nI L ≤ nI 0 from q) (nI_ge c hL)
    rw [if_pos e]
    exact And.intro rfl (And.intro rfl (And.intro rfl rfl))
  · have e : ¬ L = 0 := fun e => q (by rw [e]; exact Int32.le_refl _)
    refine Exists.intro .float (Exists.intro L (Exists.intro xs (And.intro (Or.inr rfl) (And.intro h0 (And.intro (in_nI (n := 0) (by omega) hL) ?_)))))
    rw [if_neg e]
    exact And.intro rfl (And.intro rfl (And.intro rfl rfl))
