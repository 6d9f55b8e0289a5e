/-! loops over the 64 rows of an array -/
abbrev LA (n : Nat) (f : Nat → Int64) : hp_C := .inl (.long, n, .inr (.inl f))
abbrev IA (n : Nat) (f : Nat → Int32) : hp_C := .inl (.int, n, .inl f)
abbrev ZA (n : Nat) (f : Nat → Int32) : hp_C := .inl (.boolean, n, .inl f)
/-- the first i places made new -/
def pt (i : Nat) (F f : Nat → Int64) : Nat → Int64 := fun y => if y < i then F y else f y
theorem pt_0 (F f : Nat → Int64) : pt 0 F f = f := funext fun y => if_neg (Nat.not_lt_zero y)
theorem pt_s (i : Nat) (F f : Nat → Int64) : vp_updL (pt i F f) i (F i) = pt (i + 1) F f := by
  funext y
  unfold vp_updL pt
  by_cases h1 : y = i
  · rw [if_pos h1, if_pos (by omega), h1]
  · rw [if_neg h1]
    by_cases h2 : y < i
    · rw [if_pos h2, if_pos (by omega)]
    · rw [if_neg h2, if_neg (by omega)]
theorem pt_at (i : Nat) (F f : Nat → Int64) : pt i F f i = f i := if_neg (Nat.lt_irrefl i)
theorem pt_ge {i y : Nat} (F f : Nat → Int64) (h : i ≤ y) : pt i F f y = f y := if_neg (Nat.not_lt.mpr h)
theorem pt_lt {i y : Nat} (F f : Nat → Int64) (h : y < i) : pt i F f y = F y := if_pos h
theorem in64 {i : Nat} (h : i < 64) : vp_in (nI i) 64 := vp_in_nI h (by decide)
theorem cl64 {i : Nat} (h : i < 64) : (nI i).toNatClampNeg = i := nI_clamp (by omega)
/-- an array beside one that is changing: what is read at place i -/
theorem hq_beside {h : hp_H} {a c : Nat} {f e F : Nat → Int64} {i : Nat} (ha : h[a]? = some (LA 64 f)) (hc : h[c]? = some (LA 64 e)) : ∃ f', (h.set c (LA 64 (pt i F e)))[a]? = some (LA 64 f') ∧ f' i = f i := by
  by_cases q : c = a
  · subst q
    refine ⟨pt i F e, hq_get hc, ?_⟩
    rw [hc] at ha
    cases ha
    exact pt_at _ _ _
  · exact ⟨f, by rw [hq_ne q]; exact ha, rfl⟩
set_option maxRecDepth 20000 in
theorem c_ro_complement (l : Launch) (h : hp_H) (a b : Nat) (f g : Nat → Int64) (ha : h[a]? = some (LA 64 f)) (hb : h[b]? = some (LA 64 g)) :
    hp_M l Y_ro_complement [.ref a, .ref b] h false 0 0 (hq_P (.inl none) (h.set b (LA 64 (pt 64 (fun y => f y ^^^ (-1)) g)))) := by
  refine hp_start (T := T_ro_complement) (by decide) rfl (fun σ => Nat.le_of_ble_eq_true rfl) (fun G C => ?_)
  have key : ∀ (m i : Nat), i + m = 64 → hp_W G 2 [(0, .ref a), (1, .ref b), (2, .int (nI i))] [] (h.set b (LA 64 (pt i (fun y => f y ^^^ (-1)) g))) false 0 0 := by
    intro m
    induction m with
    | zero =>
      intro i hi
      have e : i = 64 := by omega
      subst e
      refine hp_run_sound hp_co V_ro_complement C (fun _ _ _ _ _ _ _ hq => hq) [2] 6 _ _ _ _ _ _ _ ?_
      refine And.intro (fun c => ?_) (fun c => absurd (nI_le (Nat.le_refl 64) (by decide)) c)
      exact And.intro rfl (And.intro rfl (And.intro rfl rfl))
    | succ m ih =>
      intro i hi
      obtain ⟨f', hf1, hf2⟩ := hq_beside (i := i) (F := fun y => f y ^^^ (-1)) ha hb
      refine hp_run_sound hp_co V_ro_complement C (fun _ _ _ _ _ _ _ hq => hq) [2] 20 _ _ _ _ _ _ _ ?_
      refine And.intro (fun c => absurd c (nI_ge (b := 64) (by omega) (by decide))) (fun c => ?_)
      refine Exists.intro 64 (Exists.intro f' (And.intro hf1 (And.intro (in64 (by omega)) ?_)))
      refine Exists.intro 64 (Exists.intro _ (And.intro (hq_get hb) (And.intro (in64 (by omega)) ?_)))
      have hW := ih (i + 1) (by omega)
      rw [← nI_1 i, ← pt_s] at hW
      rw [hq_set, cl64 (by omega), hf2]
      exact hW
  have h0 := key 64 0 (by omega)
  rw [pt_0, hq_self hb] at h0
  refine hp_run_sound hp_co V_ro_complement C (fun _ _ _ _ _ _ _ hq => hq) [2] 6 _ _ _ _ _ _ _ ?_
  exact hp_W_dirty h0
theorem nI_addn (a b : Nat) : nI a + nI b = nI (a + b) := nI_add a b
set_option maxRecDepth 20000 in
theorem c_ro_countSquares (l : Launch) (h : hp_H) (a : Nat) (f : Nat → Int64) (ha : h[a]? = some (LA 64 f)) :
    hp_M l Y_ro_countSquares [.ref a] h true 0 0 (hq_P (.inl (some (.int (nI (sm (fun y => cn (bb (f y)) 64) 64))))) h) := by
  refine hp_start (T := T_ro_countSquares) (by decide) rfl (fun σ => Nat.le_of_ble_eq_true rfl) (fun G C => ?_)
  have key : ∀ (m i : Nat), i + m = 64 → hp_W G 4 [(0, .ref a), (1, .int (nI (sm (fun y => cn (bb (f y)) 64) i))), (2, .int (nI i))] [] h true 0 0 := by
    intro m
    induction m with
    | zero =>
      intro i hi
      have e : i = 64 := by omega
      subst e
      refine hp_run_sound hp_co V_ro_countSquares C (fun _ _ _ _ _ _ _ hq => hq) [4] 6 _ _ _ _ _ _ _ ?_
      refine And.intro (fun c => ?_) (fun c => absurd (nI_le (Nat.le_refl 64) (by decide)) c)
      exact And.intro rfl (And.intro rfl (And.intro rfl rfl))
    | succ m ih =>
      intro i hi
      refine hp_run_sound hp_co V_ro_countSquares C (fun _ _ _ _ _ _ _ hq => hq) [4] 20 _ _ _ _ _ _ _ ?_
      refine And.intro (fun c => absurd c (nI_ge (b := 64) (by omega) (by decide))) (fun c => ?_)
      refine Exists.intro 64 (Exists.intro f (And.intro ha (And.intro (in64 (by omega)) ?_)))
      refine ic_P (c_jl_bitCount l h _) (Nat.le_refl _) (Nat.le_refl _) ?_
      have hW := ih (i + 1) (by omega)
      rw [← nI_1 i] at hW
      rw [cl64 (show i < 64 by omega)]
      have e : nI (sm (fun y => cn (bb (f y)) 64) (i + 1)) = nI (sm (fun y => cn (bb (f y)) 64) i) + nI (cn (bb (f i)) 64) := (nI_add _ _).symm
      rw [e] at hW
      exact hW
  refine hp_run_sound hp_co V_ro_countSquares C (fun _ _ _ _ _ _ _ hq => hq) [4] 8 _ _ _ _ _ _ _ ?_
  exact key 64 0 (by omega)
def xrs (g : Bool) (x : Int64) (d : Nat) : Int64 := if g then xwi x d else xna x d
def zI (g : Bool) : Int32 := if g then 1 else 0
theorem zI_eq (g : Bool) : zI g = 0 ↔ g = false := by cases g <;> decide
set_option maxRecDepth 20000 in
theorem c_ro_resizeAlongX (l : Launch) (h : hp_H) (a d : Nat) (g : Bool) (hd : d ≤ 64) (f : Nat → Int64) (ha : h[a]? = some (LA 64 f)) :
    hp_M l Y_ro_resizeAlongX [.ref a, .int (nI d), .int (zI g)] h false 0 0 (hq_P (.inl none) (h.set a (LA 64 (pt 64 (fun y => xrs g (f y) d) f)))) := by
  refine hp_start (T := T_ro_resizeAlongX) (by decide) rfl (fun σ => Nat.le_of_ble_eq_true rfl) (fun G C => ?_)
  have key : ∀ (m i : Nat), i + m = 64 → hp_W G 2 [(0, .ref a), (1, .int (nI d)), (2, .int (zI g)), (3, .int (nI i))] [] (h.set a (LA 64 (pt i (fun y => xrs g (f y) d) f))) false 0 0 := by
    intro m
    induction m with
    | zero =>
      intro i hi
      have e : i = 64 := by omega
      subst e
      refine hp_run_sound hp_co V_ro_resizeAlongX C (fun _ _ _ _ _ _ _ hq => hq) [2] 6 _ _ _ _ _ _ _ ?_
      refine And.intro (fun c => ?_) (fun c => absurd (nI_le (Nat.le_refl 64) (by decide)) c)
      exact And.intro rfl (And.intro rfl (And.intro rfl rfl))
    | succ m ih =>
      intro i hi
      have hW := ih (i + 1) (by omega)
      rw [← nI_1 i, ← pt_s] at hW
      refine hp_run_sound hp_co V_ro_resizeAlongX C (fun _ _ _ _ _ _ _ hq => hq) [2] 30 _ _ _ _ _ _ _ ?_
      refine And.intro (fun c => absurd c (nI_ge (b := 64) (by omega) (by decide))) (fun c => ?_)
      refine And.intro (fun c2 => ?_) (fun c2 => ?_)
      · have hg : g = false := (zI_eq g).mp c2
        subst hg
        refine Exists.intro 64 (Exists.intro _ (And.intro (hq_get ha) (And.intro (in64 (by omega)) ?_)))
        refine ic_P (c_ro_narrowed l _ _ d hd) (Nat.le_refl _) (Nat.le_refl _) ?_
        refine Exists.intro 64 (Exists.intro _ (And.intro (hq_get ha) (And.intro (in64 (by omega)) ?_)))
        rw [hq_set, cl64 (by omega), pt_at]
        exact hW
      · have hg : g = true := by
          cases g with
          | true => rfl
          | false => exact absurd rfl c2
        subst hg
        refine Exists.intro 64 (Exists.intro _ (And.intro (hq_get ha) (And.intro (in64 (by omega)) ?_)))
        refine ic_P (c_ro_widened l _ _ d hd) (Nat.le_refl _) (Nat.le_refl _) ?_
        refine Exists.intro 64 (Exists.intro _ (And.intro (hq_get ha) (And.intro (in64 (by omega)) ?_)))
        rw [hq_set, cl64 (by omega), pt_at]
        exact hW
  have h0 := key 64 0 (by omega)
  rw [pt_0, hq_self ha] at h0
  refine hp_run_sound hp_co V_ro_resizeAlongX C (fun _ _ _ _ _ _ _ hq => hq) [2] 6 _ _ _ _ _ _ _ ?_
  exact hp_W_dirty h0
/-! combine -/
def xcb (c : Nat) (x y : Int64) : Int64 := match c with
  | 0 => x ||| y
  | 1 => x &&& y
  | 2 => x &&& (y ^^^ (-1))
  | _ => x ^^^ y
set_option maxRecDepth 20000 in
theorem c_es_combineRow (l : Launch) (h : hp_H) (c : Nat) (hc : c < 4) (x y : Int64) : hp_M l Y_es_combineRow [.int (nI c), .long x, .long y] h true 0 0 (hq_P (.inl (some (.long (xcb c x y)))) h) := by
  refine hp_start (T := T_es_combineRow) (by decide) rfl (fun σ => Nat.le_of_ble_eq_true rfl) (fun G C => ?_)
  refine hp_run_sound hp_co V_es_combineRow C (fun _ _ _ _ _ _ _ hq => hq) [] 20 _ _ _ _ _ _ _ ?_
  have ht : (nI c).toInt = (c : Int) := nI_toInt (by omega)
  refine And.intro (fun q => absurd q (by rw [ht]; omega)) (And.intro (fun q => ?_) (And.intro (fun q => ?_) (And.intro (fun q => ?_) (And.intro (fun q => ?_) trivial))))
  · have e : c = 0 := by rw [ht] at q; omega
    subst e
    exact And.intro rfl (And.intro rfl (And.intro rfl rfl))
  · have e : c = 1 := by rw [ht] at q; omega
    subst e
    exact And.intro rfl (And.intro rfl (And.intro rfl rfl))
  · have e : c = 2 := by rw [ht] at q; omega
    subst e
    exact And.intro rfl (And.intro rfl (And.intro rfl rfl))
  · have e : c = 3 := by rw [ht] at q; omega
    subst e
    exact And.intro rfl (And.intro rfl (And.intro rfl rfl))
set_option maxRecDepth 20000 in
theorem c_es_combine (l : Launch) (h : hp_H) (w a b c : Nat) (hw : w < 4) (f g e : Nat → Int64) (ha : h[a]? = some (LA 64 f)) (hb : h[b]? = some (LA 64 g)) (hc : h[c]? = some (LA 64 e)) :
    hp_M l Y_es_combine [.int (nI w), .ref a, .ref b, .ref c] h false 0 0 (hq_P (.inl none) (h.set c (LA 64 (pt 64 (fun y => xcb w (f y) (g y)) e)))) := by
  refine hp_start (T := T_es_combine) (by decide) rfl (fun σ => Nat.le_of_ble_eq_true rfl) (fun G C => ?_)
  have key : ∀ (m i : Nat), i + m = 64 → hp_W G 3 [(0, .int (nI w)), (1, .ref a), (2, .ref b), (3, .ref c), (4, .int (nI i))] [] (h.set c (LA 64 (pt i (fun y => xcb w (f y) (g y)) e))) false 0 0 := by
    intro m
    induction m with
    | zero =>
      intro i hi
      have e0 : i = 64 := by omega
      subst e0
      refine hp_run_sound hp_co V_es_combine C (fun _ _ _ _ _ _ _ hq => hq) [3] 6 _ _ _ _ _ _ _ ?_
      refine And.intro (fun c => ?_) (fun c => absurd (nI_le (Nat.le_refl 64) (by decide)) c)
      exact And.intro rfl (And.intro rfl (And.intro rfl rfl))
    | succ m ih =>
      intro i hi
      have hW := ih (i + 1) (by omega)
      rw [← nI_1 i, ← pt_s] at hW
      obtain ⟨f', hf1, hf2⟩ := hq_beside (i := i) (F := fun y => xcb w (f y) (g y)) ha hc
      obtain ⟨g', hg1, hg2⟩ := hq_beside (i := i) (F := fun y => xcb w (f y) (g y)) hb hc
      refine hp_run_sound hp_co V_es_combine C (fun _ _ _ _ _ _ _ hq => hq) [3] 30 _ _ _ _ _ _ _ ?_
      refine And.intro (fun c => absurd c (nI_ge (b := 64) (by omega) (by decide))) (fun c => ?_)
      refine Exists.intro 64 (Exists.intro f' (And.intro hf1 (And.intro (in64 (by omega)) ?_)))
      refine Exists.intro 64 (Exists.intro g' (And.intro hg1 (And.intro (in64 (by omega)) ?_)))
      refine ic_P (c_es_combineRow l _ w hw _ _) (Nat.le_refl _) (Nat.le_refl _) ?_
      refine Exists.intro 64 (Exists.intro _ (And.intro (hq_get hc) (And.intro (in64 (by omega)) ?_)))
      rw [hq_set, cl64 (by omega), hf2, hg2]
      exact hW
  have h0 := key 64 0 (by omega)
  rw [pt_0, hq_self hc] at h0
  refine hp_run_sound hp_co V_es_combine C (fun _ _ _ _ _ _ _ hq => hq) [3] 6 _ _ _ _ _ _ _ ?_
  exact hp_W_dirty h0
