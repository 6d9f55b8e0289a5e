/-! Parts: heads -/
def updN (g : Nat → Nat) (k v : Nat) : Nat → Nat := fun j => if j = k then v else g j
abbrev NA (n : Nat) (g : Nat → Nat) : hp_C := IA n (fun j => nI (g j))
theorem upd_nI (g : Nat → Nat) (k v : Nat) : upd (fun j => nI (g j)) k (nI v) = fun j => nI (updN g k v j) := by
  funext j
  unfold upd updN
  by_cases h : j = k
  · rw [if_pos h, if_pos h]
  · rw [if_neg h, if_neg h]
theorem updN_s (g : Nat → Nat) (k v : Nat) : updN g k v k = v := if_pos rfl
theorem updN_n (g : Nat → Nat) {k j : Nat} (v : Nat) (h : j ≠ k) : updN g k v j = g j := if_neg h
/-- all that a relation joins -/
def cnx {α : Type} (P : α → α → Prop) (a b : α) : Prop := ∀ Q : α → α → Prop, (∀ a, Q a a) → (∀ a b, Q a b → Q b a) → (∀ a b c, Q a b → Q b c → Q a c) → (∀ a b, P a b → Q a b) → Q a b
theorem cnx_rf {α : Type} (P : α → α → Prop) (a : α) : cnx P a a := fun _ h _ _ _ => h a
theorem cnx_sy {α : Type} {P : α → α → Prop} {a b : α} (h : cnx P a b) : cnx P b a := fun Q h1 h2 h3 h4 => h2 _ _ (h Q h1 h2 h3 h4)
theorem cnx_tr {α : Type} {P : α → α → Prop} {a b c : α} (h : cnx P a b) (h' : cnx P b c) : cnx P a c := fun Q h1 h2 h3 h4 => h3 _ _ _ (h Q h1 h2 h3 h4) (h' Q h1 h2 h3 h4)
theorem cnx_of {α : Type} {P : α → α → Prop} {a b : α} (h : P a b) : cnx P a b := fun _ _ _ _ h4 => h4 _ _ h
theorem cnx_mono {α : Type} {P P' : α → α → Prop} (hP : ∀ a b, P a b → cnx P' a b) {a b : α} (h : cnx P a b) : cnx P' a b := h _ (cnx_rf P') (fun _ _ => cnx_sy) (fun _ _ _ => cnx_tr) hP
theorem cnx_ind {α : Type} {P : α → α → Prop} {a b : α} (h : cnx P a b) (Q : α → α → Prop) (h1 : ∀ a, Q a a) (h2 : ∀ a b, Q a b → Q b a) (h3 : ∀ a b c, Q a b → Q b c → Q a c) (h4 : ∀ a b, P a b → Q a b) : Q a b := h Q h1 h2 h3 h4
/-- g: who leads whom; rt: the head of all -/
def uf (n : Nat) (g rt : Nat → Nat) : Prop := ∀ r, r < n → g r ≤ r ∧ rt r ≤ r ∧ rt (g r) = rt r ∧ (g r = r → rt r = r) ∧ g (rt r) = rt r
theorem uf_rr {n : Nat} {g rt : Nat → Nat} (h : uf n g rt) {r : Nat} (hr : r < n) : rt (rt r) = rt r := by
  obtain ⟨h1, h2, h3, h4, h5⟩ := h r hr
  exact (h (rt r) (by omega)).2.2.2.1 h5
theorem uf_short {n : Nat} {g rt : Nat → Nat} (h : uf n g rt) {r : Nat} (hr : r < n) : uf n (updN g r (rt r)) rt := by
  intro s hs
  obtain ⟨h1, h2, h3, h4, h5⟩ := h s hs
  have hrr := uf_rr h hr
  refine ⟨?_, h2, ?_, ?_, ?_⟩
  · unfold updN
    split
    · next e => rw [e]; exact (h r hr).2.1
    · exact h1
  · unfold updN
    split
    · next e => rw [e]; exact hrr
    · exact h3
  · unfold updN
    split
    · next e => rw [e]; exact fun q => q
    · exact h4
  · unfold updN
    split
    · next e => rw [← e, uf_rr h hs]
    · exact h5
def mrg (rt : Nat → Nat) (a b : Nat) : Nat → Nat := fun r => if rt r = max (rt a) (rt b) then min (rt a) (rt b) else rt r
theorem uf_mrg {n : Nat} {g rt : Nat → Nat} (h : uf n g rt) {a b : Nat} (ha : a < n) (hb : b < n) : uf n (updN g (max (rt a) (rt b)) (min (rt a) (rt b))) (mrg rt a b) := by
  have hM : rt (max (rt a) (rt b)) = max (rt a) (rt b) := by
    rcases Nat.le_total (rt a) (rt b) with q | q
    · rw [Nat.max_eq_right q]; exact uf_rr h hb
    · rw [Nat.max_eq_left q]; exact uf_rr h ha
  have hm : rt (min (rt a) (rt b)) = min (rt a) (rt b) := by
    rcases Nat.le_total (rt a) (rt b) with q | q
    · rw [Nat.min_eq_left q]; exact uf_rr h ha
    · rw [Nat.min_eq_right q]; exact uf_rr h hb
  have hgm : g (min (rt a) (rt b)) = min (rt a) (rt b) := by
    rcases Nat.le_total (rt a) (rt b) with q | q
    · rw [Nat.min_eq_left q]; exact (h a ha).2.2.2.2
    · rw [Nat.min_eq_right q]; exact (h b hb).2.2.2.2
  have hle : min (rt a) (rt b) ≤ max (rt a) (rt b) := by omega
  have hmr : ∀ r, mrg rt a b r = if rt r = max (rt a) (rt b) then min (rt a) (rt b) else rt r := fun _ => rfl
  generalize mrg rt a b = rt' at hmr ⊢
  generalize max (rt a) (rt b) = M at hM hle hmr ⊢
  generalize min (rt a) (rt b) = m at hm hgm hle hmr ⊢
  intro s hs
  obtain ⟨h1, h2, h3, h4, h5⟩ := h s hs
  have hrm : rt' m = m := by
    rw [hmr, hm]
    split
    · rfl
    · rfl
  have hrM : rt' M = m := by rw [hmr, if_pos hM]
  refine ⟨?_, ?_, ?_, ?_, ?_⟩
  · unfold updN
    split
    · omega
    · exact h1
  · rw [hmr]
    split
    · omega
    · exact h2
  · by_cases e : s = M
    · rw [e, updN_s, hrm, hrM]
    · rw [updN_n _ _ e, hmr, hmr, h3]
  · by_cases e : s = M
    · rw [e, updN_s, hrM]
      exact fun q => q
    · rw [updN_n _ _ e, hmr]
      intro q
      rw [if_neg (by rw [h4 q]; exact e), h4 q]
  · rw [hmr s]
    split
    · unfold updN
      split
      · rfl
      · exact hgm
    · next e => rw [updN_n _ _ e, h5]
/-- the heads are those of what the pairs of P join -/
def okc (n : Nat) (rt : Nat → Nat) (P : Nat → Nat → Prop) : Prop := (∀ a b, P a b → a < n ∧ b < n) ∧ ∀ r s, r < n → s < n → (rt r = rt s ↔ cnx P r s)
theorem okc_iff {n : Nat} {rt : Nat → Nat} {P P' : Nat → Nat → Prop} (h : okc n rt P) (hP : ∀ a b, P a b ↔ P' a b) : okc n rt P' := by
  have e : P = P' := funext fun a => funext fun b => propext (hP a b)
  rw [← e]
  exact h
theorem okc_0 (n : Nat) : okc n (fun r => r) (fun _ _ => False) :=
  ⟨fun _ _ q => q.elim, fun r s _ _ => ⟨fun q => by rw [show r = s from q]; exact cnx_rf _ _, fun q => q (fun a b => a = b) (fun _ => rfl) (fun _ _ e => e.symm) (fun _ _ _ e e' => e.trans e') (fun _ _ q => q.elim)⟩⟩
theorem uf_0 (n : Nat) : uf n (fun r => r) (fun r => r) := fun r _ => ⟨Nat.le_refl _, Nat.le_refl _, rfl, fun q => q, rfl⟩
theorem okc_mrg {n : Nat} {rt : Nat → Nat} {P : Nat → Nat → Prop} (h : okc n rt P) {a b : Nat} (ha : a < n) (hb : b < n) : okc n (mrg rt a b) (fun x y => P x y ∨ (x = a ∧ y = b)) := by
  obtain ⟨h1, h2⟩ := h
  refine ⟨fun x y q => ?_, fun r s hr hs => ⟨fun q => ?_, fun q => ?_⟩⟩
  · rcases q with q | ⟨rfl, rfl⟩
    · exact h1 _ _ q
    · exact ⟨ha, hb⟩
  · have up : ∀ x y, x < n → y < n → rt x = rt y → cnx (fun x y => P x y ∨ (x = a ∧ y = b)) x y := fun x y hx hy e => cnx_mono (fun _ _ q => cnx_of (Or.inl q)) ((h2 x y hx hy).mp e)
    have hab : cnx (fun x y => P x y ∨ (x = a ∧ y = b)) a b := cnx_of (Or.inr ⟨rfl, rfl⟩)
    have toA : ∀ x, x < n → (rt x = max (rt a) (rt b) ∨ rt x = min (rt a) (rt b)) → cnx (fun x y => P x y ∨ (x = a ∧ y = b)) x a := by
      intro x hx e
      have : rt x = rt a ∨ rt x = rt b := by omega
      rcases this with e | e
      · exact up _ _ hx ha e
      · exact cnx_tr (up _ _ hx hb e) (cnx_sy hab)
    unfold mrg at q
    by_cases c1 : rt r = max (rt a) (rt b)
    · rw [if_pos c1] at q
      by_cases c2 : rt s = max (rt a) (rt b)
      · exact cnx_tr (toA r hr (Or.inl c1)) (cnx_sy (toA s hs (Or.inl c2)))
      · rw [if_neg c2] at q
        exact cnx_tr (toA r hr (Or.inl c1)) (cnx_sy (toA s hs (Or.inr q.symm)))
    · rw [if_neg c1] at q
      by_cases c2 : rt s = max (rt a) (rt b)
      · rw [if_pos c2] at q
        exact cnx_tr (toA r hr (Or.inr q)) (cnx_sy (toA s hs (Or.inl c2)))
      · rw [if_neg c2] at q
        exact up _ _ hr hs q
  · have hq := cnx_ind q (fun x y => x = y ∨ (x < n ∧ y < n ∧ mrg rt a b x = mrg rt a b y)) (fun _ => Or.inl rfl) (fun x y e => by
        rcases e with e | ⟨e1, e2, e3⟩
        · exact Or.inl e.symm
        · exact Or.inr ⟨e2, e1, e3.symm⟩) (fun x y z e e' => by
        rcases e with e | ⟨e1, e2, e3⟩
        · rw [e]; exact e'
        · rcases e' with e' | ⟨f1, f2, f3⟩
          · rw [← e']; exact Or.inr ⟨e1, e2, e3⟩
          · exact Or.inr ⟨e1, f2, e3.trans f3⟩) (fun x y e => by
        rcases e with e | ⟨rfl, rfl⟩
        · obtain ⟨e1, e2⟩ := h1 _ _ e
          refine Or.inr ⟨e1, e2, ?_⟩
          unfold mrg
          rw [(h2 x y e1 e2).mpr (cnx_of e)]
        · refine Or.inr ⟨ha, hb, ?_⟩
          unfold mrg
          rcases Nat.le_total (rt x) (rt y) with c | c
          · rw [Nat.max_eq_right c, Nat.min_eq_left c, if_pos rfl]
            split
            · rfl
            · rfl
          · rw [Nat.max_eq_left c, Nat.min_eq_right c, if_pos rfl]
            split
            · rfl
            · rfl)
    rcases hq with e | e
    · rw [e]
    · exact e.2.2
set_option maxRecDepth 20000 in
theorem c_pa_headOf (l : Launch) (h : hp_H) (a n r : Nat) (g rt : Nat → Nat) (hn : n ≤ 2048) (hr : r < n) (hu : uf n g rt) (ha : h[a]? = some (NA 2048 g)) :
    hp_M l Y_pa_headOf [.int (nI r), .ref a] h false 0 0 (hq_P (.inl (some (.int (nI (rt r))))) (h.set a (NA 2048 (updN g r (rt r))))) := by
  refine hp_start (T := T_pa_headOf) (by decide) rfl (fun σ => Nat.le_of_ble_eq_true rfl) (fun G C => ?_)
  have key : ∀ (m s t : Nat), s ≤ m → t + s ≤ r → rt s = rt r → hp_W G 4 [(0, .int (nI r)), (1, .ref a), (2, .int (nI s)), (3, .int (nI t))] [] h true 0 0 := by
    intro m
    induction m with
    | zero =>
      intro s t h1 h2 h3
      have e : s = 0 := by omega
      subst e
      obtain ⟨u1, u2, u3, u4, u5⟩ := hu 0 (by omega)
      refine hp_run_sound hp_co V_pa_headOf C (fun _ _ _ _ _ _ _ hq => hq) [4] 20 _ _ _ _ _ _ _ ?_
      refine And.intro (fun c => absurd c (nI_ge (b := 2048) (by omega) (by decide))) (fun c => ?_)
      refine Exists.intro .int (Exists.intro 2048 (Exists.intro _ (And.intro (Or.inl rfl) (And.intro ha (And.intro (in_nI (by omega) (by decide)) ?_)))))
      rw [nI_clamp (by omega)]
      refine And.intro (fun c => ?_) (fun c => absurd (by rw [show g 0 = 0 by omega]) c)
      refine Exists.intro 2048 (Exists.intro _ (And.intro ha (And.intro (in_nI (by omega) (by decide)) ?_)))
      rw [nI_clamp (by omega), upd_nI]
      have e2 : rt r = 0 := by omega
      rw [e2]
      exact And.intro rfl (And.intro rfl (And.intro rfl rfl))
    | succ m ih =>
      intro s t h1 h2 h3
      obtain ⟨u1, u2, u3, u4, u5⟩ := hu s (by omega)
      refine hp_run_sound hp_co V_pa_headOf C (fun _ _ _ _ _ _ _ hq => hq) [4] 20 _ _ _ _ _ _ _ ?_
      refine And.intro (fun c => absurd c (nI_ge (b := 2048) (by omega) (by decide))) (fun c => ?_)
      refine Exists.intro .int (Exists.intro 2048 (Exists.intro _ (And.intro (Or.inl rfl) (And.intro ha (And.intro (in_nI (by omega) (by decide)) ?_)))))
      rw [nI_clamp (by omega)]
      refine And.intro (fun c => ?_) (fun c => ?_)
      · have e : g s = s := (nI_eq (by omega) (by omega)).mp c
        refine Exists.intro 2048 (Exists.intro _ (And.intro ha (And.intro (in_nI (by omega) (by decide)) ?_)))
        rw [nI_clamp (by omega), upd_nI]
        have e2 : rt r = s := by rw [← h3]; exact u4 e
        rw [e2]
        exact And.intro rfl (And.intro rfl (And.intro rfl rfl))
      · have e : g s ≠ s := fun q => c (by rw [q])
        refine Exists.intro .int (Exists.intro 2048 (Exists.intro _ (And.intro (Or.inl rfl) (And.intro ha (And.intro (in_nI (by omega) (by decide)) ?_)))))
        rw [nI_clamp (by omega)]
        have hW := ih (g s) (t + 1) (by omega) (by omega) (by rw [u3, h3])
        rw [← nI_1 t] at hW
        exact hW
  refine hp_run_sound hp_co V_pa_headOf C (fun _ _ _ _ _ _ _ hq => hq) [4] 8 _ _ _ _ _ _ _ ?_
  exact key r r 0 (Nat.le_refl _) (by omega) rfl
theorem nI_max {a b : Nat} (ha : a < 2 ^ 31) (hb : b < 2 ^ 31) : (if nI b ≤ nI a then nI a else nI b) = nI (max a b) := by
  by_cases q : b ≤ a
  · rw [if_pos ((nI_leI hb ha).mpr q), Nat.max_eq_left q]
  · rw [if_neg (fun c => q ((nI_leI hb ha).mp c)), Nat.max_eq_right (by omega)]
theorem nI_min {a b : Nat} (ha : a < 2 ^ 31) (hb : b < 2 ^ 31) : (if nI a ≤ nI b then nI a else nI b) = nI (min a b) := by
  by_cases q : a ≤ b
  · rw [if_pos ((nI_leI ha hb).mpr q), Nat.min_eq_left q]
  · rw [if_neg (fun c => q ((nI_leI ha hb).mp c)), Nat.min_eq_right (by omega)]
set_option maxRecDepth 20000 in
theorem c_pa_join (l : Launch) (h : hp_H) (a n r s : Nat) (g rt : Nat → Nat) (hn : n ≤ 2048) (hr : r < n) (hs : s < n) (hu : uf n g rt) (ha : h[a]? = some (NA 2048 g)) :
    hp_M l Y_pa_join [.int (nI r), .int (nI s), .ref a] h false 0 0 (fun q h' => q = .inl none ∧ ∃ g', h' = h.set a (NA 2048 g') ∧ uf n g' (mrg rt r s)) := by
  refine hp_start (T := T_pa_join) (by decide) rfl (fun σ => Nat.le_of_ble_eq_true rfl) (fun G C => ?_)
  have hu1 := uf_short hu hr
  have hu2 := uf_short hu1 hs
  have b1 := (hu r hr).2.1
  have b2 := (hu s hs).2.1
  refine hp_run_sound hp_co V_pa_join C (fun _ _ _ _ _ _ _ hq => hq) [] 20 _ _ _ _ _ _ _ ?_
  refine ic_P (c_pa_headOf l h a n r g rt hn hr hu ha) (Nat.le_refl _) (Nat.le_refl _) ?_
  refine ic_P (c_pa_headOf l _ a n s _ rt hn hs hu1 (hq_get ha)) (Nat.le_refl _) (Nat.le_refl _) ?_
  refine ic_P (M_swap (c_jm_max l _ _ _)) (Nat.le_refl _) (Nat.le_refl _) ?_
  refine ic_P (M_swap (c_jm_min l _ _ _)) (Nat.le_refl _) (Nat.le_refl _) ?_
  rw [nI_max (by omega) (by omega), nI_min (by omega) (by omega), hq_set]
  refine Exists.intro 2048 (Exists.intro _ (And.intro (hq_get ha) (And.intro (in_nI (by omega) (by decide)) ?_)))
  rw [nI_clamp (by omega), upd_nI, hq_set]
  exact And.intro rfl (And.intro rfl (And.intro rfl ⟨_, rfl, uf_mrg hu2 hr hs⟩))
