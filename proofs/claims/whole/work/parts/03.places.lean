/-! HEAPS BY PLACE. A pure heap is a list of cells; a reference is a place in it. σ says at which address each place lies. -/
abbrev hp_X : Type := (Nat → Int32) ⊕ (Nat → Int64) ⊕ (Nat → UInt32) ⊕ (Nat → UInt64) ⊕ (Nat → Option Nat)
abbrev hp_C : Type := (FieldType × Nat × hp_X) ⊕ (Nat × List Value)
abbrev hp_H : Type := List hp_C
/-- how a method ends: it returns, or throws an exception of the class with this number -/
abbrev hp_R : Type := Option Value ⊕ Nat
abbrev hp_L : Type := List (Nat × Value)
def hp_cv (σ : List Nat) (v : Value) : Value := match v with
  | .ref k => .ref (σ.getD k 0)
  | .int x => .int x
  | .long x => .long x
  | .float x => .float x
  | .double x => .double x
  | .null => .null
  | .retAddr x => .retAddr x
def hp_ok (σ : List Nat) (v : Value) : Prop := match v with
  | .ref k => k < σ.length
  | _ => True
def hp_le (σ τ : List Nat) : Prop := σ.length ≤ τ.length ∧ ∀ k, k < σ.length → τ.getD k 0 = σ.getD k 0
theorem hp_le_rf {σ : List Nat} : hp_le σ σ := ⟨Nat.le_refl _, fun _ _ => rfl⟩
theorem hp_le_tr {σ τ υ : List Nat} (h1 : hp_le σ τ) (h2 : hp_le τ υ) : hp_le σ υ :=
  ⟨Nat.le_trans h1.1 h2.1, fun k hk => (h2.2 k (Nat.lt_of_lt_of_le hk h1.1)).trans (h1.2 k hk)⟩
theorem hp_le_push {σ : List Nat} (q : Nat) : hp_le σ (σ ++ [q]) :=
  ⟨by simp, fun k hk => by rw [List.getD_eq_getElem?_getD, List.getD_eq_getElem?_getD, List.getElem?_append_left hk]⟩
theorem hp_cv_mono {σ τ : List Nat} (h : hp_le σ τ) {v : Value} (hv : hp_ok σ v) : hp_cv τ v = hp_cv σ v := by
  cases v <;> try rfl
  exact congrArg Value.ref (h.2 _ hv)
theorem hp_ok_mono {σ τ : List Nat} (h : hp_le σ τ) {v : Value} (hv : hp_ok σ v) : hp_ok τ v := by
  cases v <;> try trivial
  exact Nat.lt_of_lt_of_le hv h.1
theorem hp_cv_cat (σ : List Nat) (v : Value) : (hp_cv σ v).category = v.category := by cases v <;> rfl
/-- an element of an array, as a value -/
def hp_el (x : hp_X) (j : Nat) : Value := match x with
  | .inl f => .int (f j)
  | .inr (.inl f) => .long (f j)
  | .inr (.inr (.inl f)) => .float (f j)
  | .inr (.inr (.inr (.inl f))) => .double (f j)
  | .inr (.inr (.inr (.inr f))) => va_rf (f j)
/-- the mark of an array that is only read (the script): its type is int -/
def hp_ty (t : FieldType) : FieldType := match t with
  | .float => .int
  | t => t
def hp_wr (c : hp_C) : Bool := match c with
  | .inl (.float, _) => false
  | _ => true
def hp_at (D : va_G) (U : State) (σ : List Nat) (c : hp_C) (a : Nat) (H : Heap) : Prop := match c with
  | .inl (ty, n, x) => ∃ cell : Cell, H[a]? = some cell ∧ U.isArrayOf cell (hp_ty ty) ∧ cell.vm ≠ .unknown ∧ cell.slots.size = n ∧ ∀ j, j < n → cell.slots[j]? = some (hp_cv σ (hp_el x j)) ∧ hp_ok σ (hp_el x j)
  | .inr (ci, fs) => ∃ (r : vw_C) (cell : Cell), classes[ci]? = some r ∧ H[a]? = some cell ∧ cell.cls = D.1 ci ∧ cell.vm = .none ∧ ∀ k, k < r.2.2 → cell.slots[D.2 ci k]? = some (hp_cv σ (vp_V fs k)) ∧ hp_ok σ (vp_V fs k)
def hp_rep (D : va_G) (z : Nat) (U : State) (σ : List Nat) (h : hp_H) (H : Heap) : Prop :=
  σ.length = h.length ∧ (∀ (k : Nat) (c : hp_C), h[k]? = some c → hp_at D U σ c (σ.getD k 0) H) ∧ (∀ i j : Nat, i < σ.length → j < σ.length → σ.getD i 0 = σ.getD j 0 → i = j) ∧
    (∀ (k : Nat) (c : hp_C), h[k]? = some c → hp_wr c = true → z ≤ σ.getD k 0) ∧ ∀ (a : Nat) (cell : Cell), z ≤ a → H[a]? = some cell → cell.vm.isStatics = false
def hp_fr (z : Nat) (H0 H : Heap) : Prop := H0.size ≤ H.size ∧ ∀ q : Nat, q < z → H[q]? = H0[q]?
theorem hp_fr_rf {z : Nat} {H : Heap} : hp_fr z H H := ⟨Nat.le_refl _, fun _ _ => rfl⟩
theorem hp_fr_tr {z : Nat} {H0 H1 H2 : Heap} (h1 : hp_fr z H0 H1) (h2 : hp_fr z H1 H2) : hp_fr z H0 H2 :=
  ⟨Nat.le_trans h1.1 h2.1, fun q hq => (h2.2 q hq).trans (h1.2 q hq)⟩
theorem hp_arr_moved {u U : State} (hvm : u.vm.Alike U.vm) {cell : Cell} {ty : FieldType} (h : u.isArrayOf cell ty) : U.isArrayOf cell ty := by
  obtain ⟨h1, k, h2, comp, h3⟩ := h
  obtain ⟨k', hk', he⟩ := hvm.2.2 _ _ h2
  exact ⟨h1, k', hk', comp, by rw [he]; exact h3⟩
theorem hp_at_moved {D : va_G} {u U : State} (hvm : u.vm.Alike U.vm) {σ : List Nat} {c : hp_C} {a : Nat} {H : Heap} (h : hp_at D u σ c a H) : hp_at D U σ c a H := by
  match c, h with
  | .inl (ty, n, x), h =>
    obtain ⟨cell, h1, h2, h3⟩ := h
    exact ⟨cell, h1, hp_arr_moved hvm h2, h3⟩
  | .inr (ci, fs), h => exact h
theorem hp_rep_moved {D : va_G} {z : Nat} {u U : State} (hvm : u.vm.Alike U.vm) {σ : List Nat} {h : hp_H} {H : Heap} (r : hp_rep D z u σ h H) : hp_rep D z U σ h H :=
  ⟨r.1, fun k c hk => hp_at_moved hvm (r.2.1 k c hk), r.2.2⟩
theorem hp_at_lt {D : va_G} {U : State} {σ : List Nat} {c : hp_C} {a : Nat} {H : Heap} (h : hp_at D U σ c a H) : a < H.size := by
  match c, h with
  | .inl (ty, n, x), h =>
    obtain ⟨cell, h1, -⟩ := h
    exact (Array.getElem?_eq_some_iff.mp h1).1
  | .inr (ci, fs), h =>
    obtain ⟨r, cell, -, h1, -⟩ := h
    exact (Array.getElem?_eq_some_iff.mp h1).1
/-- the same cell, elsewhere the same, more places known -/
theorem hp_at_to {D : va_G} {U : State} {σ τ : List Nat} (hl : hp_le σ τ) {c : hp_C} {a : Nat} {H H1 : Heap} (he : H1[a]? = H[a]?) (h : hp_at D U σ c a H) : hp_at D U τ c a H1 := by
  match c, h with
  | .inl (ty, n, x), h =>
    obtain ⟨cell, h1, h2, h3, h4, h5⟩ := h
    exact ⟨cell, he.trans h1, h2, h3, h4, fun j hj => ⟨by rw [hp_cv_mono hl (h5 j hj).2]; exact (h5 j hj).1, hp_ok_mono hl (h5 j hj).2⟩⟩
  | .inr (ci, fs), h =>
    obtain ⟨r, cell, h0, h1, h2, h3, h4⟩ := h
    exact ⟨r, cell, h0, he.trans h1, h2, h3, fun j hj => ⟨by rw [hp_cv_mono hl (h4 j hj).2]; exact (h4 j hj).1, hp_ok_mono hl (h4 j hj).2⟩⟩
theorem hp_rep_lt {D : va_G} {z : Nat} {U : State} {σ : List Nat} {h : hp_H} {H : Heap} (r : hp_rep D z U σ h H) {k : Nat} (hk : k < σ.length) : σ.getD k 0 < H.size := by
  have hk' : k < h.length := by rw [← r.1]; exact hk
  exact hp_at_lt (r.2.1 k _ (List.getElem?_eq_getElem hk'))
/-- a cell of the heap is written -/
theorem hp_rep_put {D : va_G} {z : Nat} {U : State} {σ : List Nat} {h : hp_H} {H H1 : Heap} (r : hp_rep D z U σ h H) {a : Nat} {c c' : hp_C} (ha : h[a]? = some c) (hw : hp_wr c = true)
    (hn : hp_at D U σ c' (σ.getD a 0) H1) (ho : ∀ q, q ≠ σ.getD a 0 → H1[q]? = H[q]?) (hs : ∀ cell, H1[σ.getD a 0]? = some cell → cell.vm.isStatics = false) : hp_rep D z U σ (h.set a c') H1 := by
  obtain ⟨r1, r2, r3, r4, r5⟩ := r
  have hal : a < h.length := (List.getElem?_eq_some_iff.mp ha).1
  refine ⟨by simpa using r1, fun k c2 hk => ?_, r3, fun k c2 hk hw2 => ?_, fun q cell hq hc => ?_⟩
  · by_cases e : k = a
    · subst e
      rw [List.getElem?_set_self hal] at hk
      cases hk
      exact hn
    · rw [List.getElem?_set_ne (Ne.symm e)] at hk
      have hkl : k < h.length := (List.getElem?_eq_some_iff.mp hk).1
      exact hp_at_to hp_le_rf (ho _ (fun q => e (r3 k a (by omega) (by omega) q))) (r2 k c2 hk)
  · by_cases e : k = a
    · subst e
      exact r4 k c ha hw
    · rw [List.getElem?_set_ne (Ne.symm e)] at hk
      exact r4 k c2 hk hw2
  · by_cases e : q = σ.getD a 0
    · subst e
      exact hs cell hc
    · rw [ho q e] at hc
      exact r5 q cell hq hc
/-- a cell is added -/
theorem hp_rep_push {D : va_G} {z : Nat} {U : State} {σ : List Nat} {h : hp_H} {H H1 : Heap} (r : hp_rep D z U σ h H) {c : hp_C} (hz : z ≤ H.size)
    (hn : hp_at D U (σ ++ [H.size]) c H.size H1) (ho : ∀ q, q < H.size → H1[q]? = H[q]?) (hsz : H1.size = H.size + 1) (hs : ∀ cell, H1[H.size]? = some cell → cell.vm.isStatics = false) : hp_rep D z U (σ ++ [H.size]) (h ++ [c]) H1 := by
  have hlt := fun k hk => hp_rep_lt r (k := k) hk
  obtain ⟨r1, r2, r3, r4, r5⟩ := r
  have hg : ∀ k, k < σ.length → (σ ++ [H.size]).getD k 0 = σ.getD k 0 := fun k hk => (hp_le_push H.size).2 k hk
  have hgl : (σ ++ [H.size]).getD h.length 0 = H.size := by rw [← r1]; simp
  refine ⟨by simp [r1], fun k c2 hk => ?_, fun i j hi hj e => ?_, fun k c2 hk hw2 => ?_, fun q cell hq hc => ?_⟩
  · rcases Nat.lt_or_ge k h.length with hk' | hk'
    · rw [List.getElem?_append_left hk'] at hk
      rw [hg k (by omega)]
      exact hp_at_to (hp_le_push _) (ho _ (hlt k (by omega))) (r2 k c2 hk)
    · rw [List.getElem?_append_right hk'] at hk
      have hkl := (List.getElem?_eq_some_iff.mp hk).1
      have e : k = h.length := by simp at hkl; omega
      subst e
      simp at hk
      rw [hgl, ← hk]
      exact hn
  · simp only [List.length_append, List.length_singleton] at hi hj
    rcases Nat.lt_or_ge i σ.length with hi' | hi' <;> rcases Nat.lt_or_ge j σ.length with hj' | hj'
    · rw [hg i hi', hg j hj'] at e
      exact r3 i j hi' hj' e
    · have ej : j = h.length := by omega
      subst ej
      rw [hg i hi', hgl] at e
      have := hlt i hi'
      omega
    · have ei : i = h.length := by omega
      subst ei
      rw [hg j hj', hgl] at e
      have := hlt j hj'
      omega
    · omega
  · rcases Nat.lt_or_ge k h.length with hk' | hk'
    · rw [List.getElem?_append_left hk'] at hk
      rw [hg k (by omega)]
      exact r4 k c2 hk hw2
    · have hkl := (List.getElem?_eq_some_iff.mp hk).1
      have e : k = h.length := by simp at hkl; omega
      subst e
      rw [hgl]
      exact hz
  · rcases Nat.lt_or_ge q H.size with hq' | hq'
    · rw [ho q hq'] at hc
      exact r5 q cell hq hc
    · have hql := (Array.getElem?_eq_some_iff.mp hc).1
      have e : q = H.size := by omega
      subst e
      exact hs cell hc
/-! locals: which are known -/
def hp_lv (σ : List Nat) (nL : Nat) (lv : hp_L) (ls : Array Slot) : Prop := ls.size = nL ∧ lv_wf ls ∧ ∀ q ∈ lv, hp_ok σ q.2 ∧ ls[q.1]? = some (.val (hp_cv σ q.2))
def hp_get (lv : hp_L) (i : Nat) : Option Value := match lv with
  | [] => none
  | q :: l => cond (Nat.beq q.1 i) (some q.2) (hp_get l i)
theorem hp_get_mem : ∀ (lv : hp_L) (i : Nat) (v : Value), hp_get lv i = some v → (i, v) ∈ lv
  | [], _, _, h => by cases h
  | q :: l, i, v, h => by
    unfold hp_get at h
    cases hb : Nat.beq q.1 i with
    | true =>
      rw [hb] at h
      have e : q.1 = i := Nat.eq_of_beq_eq_true hb
      have e2 : q.2 = v := Option.some.inj h
      subst e; subst e2
      exact List.mem_cons_self
    | false =>
      rw [hb] at h
      exact List.mem_cons_of_mem _ (hp_get_mem l i v h)
def hp_ins (i : Nat) (v : Value) (l : hp_L) : hp_L := match l with
  | [] => [(i, v)]
  | q :: r => cond (Nat.ble i q.1) ((i, v) :: q :: r) (q :: hp_ins i v r)
theorem hp_ins_mem (i : Nat) (v : Value) : ∀ (l : hp_L) (q : Nat × Value), q ∈ hp_ins i v l → q = (i, v) ∨ q ∈ l
  | [], q, h => Or.inl (by simpa [hp_ins] using h)
  | p :: r, q, h => by
    unfold hp_ins at h
    cases hb : Nat.ble i p.1 with
    | true =>
      rw [hb] at h
      rcases List.mem_cons.mp h with h | h
      · exact Or.inl h
      · exact Or.inr h
    | false =>
      rw [hb] at h
      rcases List.mem_cons.mp h with h | h
      · exact Or.inr (by rw [h]; exact List.mem_cons_self)
      · rcases hp_ins_mem i v r q h with h | h
        · exact Or.inl h
        · exact Or.inr (List.mem_cons_of_mem _ h)
/-- which listed locals a store at i leaves: b: the stored value has two slots -/
def hp_cut (i : Nat) (b : Bool) (l : hp_L) : hp_L := match l with
  | [] => []
  | q :: r => cond (Nat.beq q.1 i || (Nat.beq (q.1 + 1) i && Nat.beq q.2.category 2) || (b && Nat.beq q.1 (i + 1))) (hp_cut i b r) (q :: hp_cut i b r)
theorem hp_cut_mem (i : Nat) (b : Bool) : ∀ (l : hp_L) (q : Nat × Value), q ∈ hp_cut i b l → q ∈ l ∧ ¬ q.1 = i ∧ ¬ (q.1 + 1 = i ∧ q.2.category = 2) ∧ ¬ (b = true ∧ q.1 = i + 1)
  | [], q, h => by cases h
  | p :: r, q, h => by
    unfold hp_cut at h
    cases hb : (Nat.beq p.1 i || (Nat.beq (p.1 + 1) i && Nat.beq p.2.category 2) || (b && Nat.beq p.1 (i + 1))) with
    | true =>
      rw [hb] at h
      obtain ⟨h1, h2⟩ := hp_cut_mem i b r q h
      exact ⟨List.mem_cons_of_mem _ h1, h2⟩
    | false =>
      rw [hb] at h
      rcases List.mem_cons.mp h with h | h
      · subst h
        simp only [Bool.or_eq_false_iff, Bool.and_eq_false_iff] at hb
        obtain ⟨⟨h1, h2⟩, h3⟩ := hb
        refine ⟨List.mem_cons_self, fun e => ?_, fun e => ?_, fun e => ?_⟩
        · rw [e] at h1
          simp at h1
        · rw [e.1, e.2] at h2
          simp at h2
        · rw [e.1, e.2] at h3
          simp at h3
      · obtain ⟨h1, h2⟩ := hp_cut_mem i b r q h
        exact ⟨List.mem_cons_of_mem _ h1, h2⟩
def hp_set (lv : hp_L) (i : Nat) (v : Value) : hp_L := hp_ins i v (hp_cut i (Nat.beq v.category 2) lv)
/-- the listed locals of these numbers alone -/
def hp_pick (ks : List Nat) (lv : hp_L) : hp_L := match ks with
  | [] => []
  | k :: r => match hp_get lv k with
    | some v => (k, v) :: hp_pick r lv
    | none => hp_pick r lv
theorem hp_pick_mem (lv : hp_L) : ∀ (ks : List Nat) (q : Nat × Value), q ∈ hp_pick ks lv → q ∈ lv
  | [], q, h => by cases h
  | k :: r, q, h => by
    unfold hp_pick at h
    cases hg : hp_get lv k with
    | some v =>
      rw [hg] at h
      rcases List.mem_cons.mp h with h | h
      · rw [h]; exact hp_get_mem lv k v hg
      · exact hp_pick_mem lv r q h
    | none =>
      rw [hg] at h
      exact hp_pick_mem lv r q h
theorem hp_lv_real {σ : List Nat} {nL : Nat} {lv : hp_L} {ls : Array Slot} (h : hp_lv σ nL lv ls) : lv_has ls nL (lv.map fun q => (q.1, hp_cv σ q.2)) :=
  ⟨h.1, h.2.1, fun q hq => by
    obtain ⟨p, hp, rfl⟩ := List.mem_map.mp hq
    exact (h.2.2 p hp).2⟩
theorem hp_lv_get {σ : List Nat} {nL : Nat} {lv : hp_L} {ls : Array Slot} (h : hp_lv σ nL lv ls) {i : Nat} {v : Value} (hg : hp_get lv i = some v) : hp_ok σ v ∧ ls[i]? = some (.val (hp_cv σ v)) :=
  h.2.2 (i, v) (hp_get_mem lv i v hg)
theorem hp_lv_mono {σ τ : List Nat} (hl : hp_le σ τ) {nL : Nat} {lv : hp_L} {ls : Array Slot} (h : hp_lv σ nL lv ls) : hp_lv τ nL lv ls :=
  ⟨h.1, h.2.1, fun q hq => ⟨hp_ok_mono hl (h.2.2 q hq).1, by rw [hp_cv_mono hl (h.2.2 q hq).1]; exact (h.2.2 q hq).2⟩⟩
theorem hp_lv_sub {σ : List Nat} {nL : Nat} {lv lv' : hp_L} {ls : Array Slot} (h : hp_lv σ nL lv ls) (hs : ∀ q ∈ lv', q ∈ lv) : hp_lv σ nL lv' ls := ⟨h.1, h.2.1, fun q hq => h.2.2 q (hs q hq)⟩
theorem hp_lv_set {σ : List Nat} {nL : Nat} {lv : hp_L} {ls ls' : Array Slot} {i : Nat} {v : Value} (h : hp_lv σ nL lv ls) (hv : hp_ok σ v)
    (h' : lv_has ls' nL ((i, hp_cv σ v) :: (lv.map fun q => (q.1, hp_cv σ q.2)).filter (fun q => !(q.1 == i) && ((v.category == 1 || !(q.1 == i + 1)) && !(q.1 + 1 == i && q.2.category == 2))))) : hp_lv σ nL (hp_set lv i v) ls' := by
  refine ⟨h'.1, h'.2.1, fun q hq => ?_⟩
  rcases hp_ins_mem _ _ _ _ hq with e | hq
  · subst e
    exact ⟨hv, h'.2.2 _ List.mem_cons_self⟩
  · obtain ⟨h1, h2, h3, h4⟩ := hp_cut_mem _ _ _ _ hq
    refine ⟨(h.2.2 q h1).1, h'.2.2 (q.1, hp_cv σ q.2) (List.mem_cons_of_mem _ (List.mem_filter.mpr ⟨List.mem_map.mpr ⟨q, h1, rfl⟩, ?_⟩))⟩
    simp only [hp_cv_cat, Bool.and_eq_true, Bool.or_eq_true, Bool.not_eq_true', beq_iff_eq, beq_eq_false_iff_ne, Bool.and_eq_false_iff, ne_eq]
    refine ⟨h2, ?_, ?_⟩
    · rcases lv_cat v with hc | hc
      · exact Or.inl hc
      · exact Or.inr fun e => h4 ⟨by rw [hc]; rfl, e⟩
    · by_cases e : q.1 + 1 = i
      · exact Or.inr fun e2 => h3 ⟨e, e2⟩
      · exact Or.inl e
