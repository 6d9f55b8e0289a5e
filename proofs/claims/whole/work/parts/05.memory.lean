/-- what a class of the worlds brings: its words, the types of its fields -/
def hp_clsok : Prop := ∀ (ci : Nat) (r : vw_C), classes[ci]? = some r → (∀ w ∈ u_ws r.1 r.2.1 r.2.2, w ∈ hp_Ts) ∧ (∀ k, k < r.2.2 → parseFieldDescriptor (r.2.1 k).2.2.1 = some (hp_fty ci k)) ∧
  (∀ a, a < r.2.2 → ∀ b, b < r.2.2 → a ≠ b → (r.2.1 a).2.1 ≠ (r.2.1 b).2.1) ∧ Cond.instantiable r.1 r.2.2 ∈ hp_Ts ∧ Cond.initialized r.1 ∈ hp_Ts ∧ (∀ j, j < r.2.2 → defaultValue (hp_fty ci j) = vp_V (hp_new ci) j) ∧ (hp_new ci).length = r.2.2
/-- the tables' part of what stays the same, for a method of the class own -/
def hp_O (own : String) (G : hp_G) : Prop := (∀ w ∈ hp_Ts, w.before (g_a G) (g_s G) = true) ∧ (g_s G).vm.findClass own = some (g_m G).cls ∧ va_K (g_D G) classes [] (g_s G) ∧ g_z G ≤ (g_s G).heap.size
theorem hp_set_self (cell : Cell) {i : Nat} (v : Value) (h : i < cell.slots.size) : (cell.setSlot i v).slots[i]? = some v := by
  simp [Cell.setSlot, Array.getElem?_setIfInBounds, h]
theorem hp_set_arr {U : State} {cell : Cell} {ty : FieldType} (i : Nat) (v : Value) (h : U.isArrayOf cell ty) : U.isArrayOf (cell.setSlot i v) ty := h
theorem vp_V_set {fs : List Value} {k : Nat} {v : Value} (hk : k < fs.length) (j : Nat) : vp_V (fs.set k v) j = if j = k then v else vp_V fs j := by
  unfold vp_V
  rw [List.getD_eq_getElem?_getD, List.getD_eq_getElem?_getD]
  by_cases e : j = k
  · subst e
    rw [if_pos rfl, List.getElem?_set_self hk]; rfl
  · rw [if_neg e, List.getElem?_set_ne (Ne.symm e)]
theorem hp_fit_cv {σ : List Nat} {ty : FieldType} {v : Value} (h1 : narrow ty v = v) (h2 : fits ty v = true) : narrow ty (hp_cv σ v) = hp_cv σ v ∧ fits ty (hp_cv σ v) = true := by
  cases v with
  | ref a => cases ty <;> first | exact ⟨rfl, rfl⟩ | (exfalso; revert h2; decide) | (exfalso; simp [fits] at h2)
  | _ => exact ⟨h1, h2⟩
section HpM
variable {G : hp_G} {cc : ByteArray} {pc : Nat} {lv : hp_L} {st : List Value} {h : hp_H} {w : Bool} {k n : Nat} {K : hp_K}

theorem hs_getfield (C : hp_B cc G) (hK : ∀ pc lv st h w k n, K pc lv st h w k n → hp_W G pc lv st h w k n) {own : String} (O : hp_O own G) (hco : hp_clsok) {ci fk idx : Nat} {r0 : vw_C} (hc : classes[ci]? = some r0) (hk : fk < r0.2.2) (hlink : Cond.fieldLink own idx (r0.2.1 fk).1 (r0.2.1 fk).2.1 (r0.2.1 fk).2.2.1 ∈ hp_Ts)
    (hd : decode cc pc = .ok (.getfield idx, 3)) (hi : st_a st fun a r => ∃ fs, h[a]? = some (.inr (ci, fs)) ∧ K (pc + 3) lv (vp_V fs fk :: r) h w k n) : hp_W G pc lv st h w k n := by
  obtain ⟨a, r, rfl, fs, ha, hiq⟩ := st_a_of hi
  intro σ H locs ls a1 a2 a3 a4 a5 a6 a7 a8 a9
  obtain ⟨rc, cell, q0, q1, q2, q3, q4⟩ := a1.2.1 a _ ha
  have hr : rc = r0 := Option.some.inj (q0.symm.trans hc)
  subst hr
  obtain ⟨hts, hown, hKn, -⟩ := O
  obtain ⟨hS, hfc, kC, hkC, hkind⟩ := hKn.1 ci _ hc
  obtain ⟨cf, kf, fi, f, hfi, hsl⟩ := hS fk hk
  refine W.getf C.1 C.2.1 hown (hts _ hlink) hfi (u_facts hfc hkC (u_lays hts (hco ci _ hc).1 hk) hfi).1 q1 (by rw [q3]; exact fun q => by cases q) (v := hp_cv σ (vp_V fs fk)) (by rw [hsl]; exact (q4 fk hk).1) rfl rfl hd ?_
  exact hK _ _ _ _ _ _ _ hiq σ H locs ls a1 a2 a3 a4 a5 a6 (fun v hv => by rcases List.mem_cons.mp hv with e | e; (rw [e]; exact (q4 fk hk).2); exact a7 v (List.mem_cons_of_mem _ e)) a8 a9
/-- the heap behind a store into a field -/
theorem hp_rep_field {D : va_G} {z : Nat} {U : State} {σ : List Nat} {H H1 : Heap} (hKn : va_K D classes [] U) {args : Array Value} (hts : ∀ w ∈ hp_Ts, w.before args U = true) (hco : hp_clsok) (r : hp_rep D z U σ h H) {a ci fk : Nat} {fs : List Value} {r0 : vw_C} (hc : classes[ci]? = some r0) (hk : fk < r0.2.2) (ha : h[a]? = some (.inr (ci, fs))) (hl : fk < fs.length)
    {cell : Cell} (q1 : H[σ.getD a 0]? = some cell) (q2 : cell.cls = D.1 ci) (q3 : cell.vm = .none) (q4 : ∀ k, k < r0.2.2 → cell.slots[D.2 ci k]? = some (hp_cv σ (vp_V fs k)) ∧ hp_ok σ (vp_V fs k)) {v : Value} (hv : hp_ok σ v)
    (e1 : H1[σ.getD a 0]? = some (cell.setSlot (D.2 ci fk) (hp_cv σ v))) (e3 : ∀ q, q ≠ σ.getD a 0 → H1[q]? = H[q]?) : hp_rep D z U σ (h.set a (.inr (ci, fs.set fk v))) H1 := by
  have hap := va_apart (own := "") hts (hco ci _ hc).1 (hp_fty ci) (hco ci _ hc).2.1 (hco ci _ hc).2.2.1 hKn hc
  refine hp_rep_put r ha rfl ⟨r0, _, hc, e1, q2, q3, fun j hj => ?_⟩ e3 (fun c2 h2 => ?_)
  · rw [vp_V_set hl]
    by_cases e : j = fk
    · subst e
      rw [if_pos rfl]
      exact ⟨hp_set_self _ _ (k2_hasslot (q4 j hj).1), hv⟩
    · rw [if_neg e, slot_ne _ _ (hap fk j hk hj (Ne.symm e))]
      exact q4 j hj
  · rw [e1] at h2
    cases h2
    show cell.vm.isStatics = false
    rw [q3]; rfl
theorem hs_putfield (C : hp_B cc G) (hK : ∀ pc lv st h w k n, K pc lv st h w k n → hp_W G pc lv st h w k n) {own : String} (O : hp_O own G) (hco : hp_clsok) {ci fk idx : Nat} {r0 : vw_C} (hc : classes[ci]? = some r0) (hk : fk < r0.2.2) (hlink : Cond.fieldLink own idx (r0.2.1 fk).1 (r0.2.1 fk).2.1 (r0.2.1 fk).2.2.1 ∈ hp_Ts)
    (hfin : (r0.2.1 fk).2.2.2 = false ∨ ((r0.2.1 fk).2.2.2 = true ∧ (g_me G).name = "<init>" ∧ (r0.2.1 fk).1 = own))
    (hd : decode cc pc = .ok (.putfield idx, 3)) (hi : st_v st fun v r => st_a r fun a r => ∃ fs, h[a]? = some (.inr (ci, fs)) ∧ fk < fs.length ∧ narrow (hp_fty ci fk) v = v ∧ fits (hp_fty ci fk) v = true ∧ K (pc + 3) lv r (h.set a (.inr (ci, fs.set fk v))) false k n) : hp_W G pc lv st h w k n := by
  obtain ⟨v, r, rfl, hiq⟩ := st_v_of hi
  obtain ⟨a, r, rfl, fs, ha, hl, hn1, hn2, hiqq⟩ := st_a_of hiq
  intro σ H locs ls a1 a2 a3 a4 a5 a6 a7 a8 a9
  obtain ⟨rc, cell, q0, q1, q2, q3, q4⟩ := a1.2.1 a _ ha
  have hr : rc = r0 := Option.some.inj (q0.symm.trans hc)
  subst hr
  have hz : g_z G ≤ σ.getD a 0 := a1.2.2.2.1 a _ ha rfl
  have hv := a7 v List.mem_cons_self
  obtain ⟨hn, hfit⟩ := hp_fit_cv (σ := σ) hn1 hn2
  obtain ⟨hts, hown, hKn, -⟩ := O
  obtain ⟨hS, hfc, kC, hkC, hkind⟩ := hKn.1 ci _ hc
  obtain ⟨cf, kf, fi, f, hfi, hsl⟩ := hS fk hk
  have hst := (u_facts hfc hkC (u_lays hts (hco ci _ hc).1 hk) hfi).1
  have hty := (hco ci _ hc).2.1 fk hk
  have hlay := hts _ ((hco ci _ hc).1 _ (u_in_lay hk))
  unfold u_lay at hlay
  have kk : ∀ H' : Heap, H'[σ.getD a 0]? = some (cell.setSlot f.slot (hp_cv σ v)) → H'.size = H.size → (∀ q, q ≠ σ.getD a 0 → H'[q]? = H[q]?) → W (g_p G) (g_l G) (g_e G) (g_R G) (g_s G) (g_m G) (g_a G) (g_b G) (g_me G) (g_c G) H' (locs ++ [⟨σ.getD a 0, f.slot⟩]) k n (hp_Z G) (F0 (g_m G) (pc + 3) ls (r.map (hp_cv σ))) := by
    intro H' e1 e2 e3
    rw [hsl] at e1
    refine hK _ _ _ _ _ _ _ hiqq σ H' _ ls (hp_rep_field hKn hts hco a1 hc hk ha hl q1 q2 q3 q4 hv e1 e3) a2 ⟨by rw [e2]; exact a3.1, fun q hq => ?_⟩ (fun q hq => ?_) (fun q => by cases q) a6 (fun v hv => a7 v (List.mem_cons_of_mem _ (List.mem_cons_of_mem _ hv))) a8 a9
    · rw [e3 q (Nat.ne_of_lt (Nat.lt_of_lt_of_le hq hz))]
      exact a3.2 q hq
    · rcases List.mem_append.mp hq with hq | hq
      · exact a4 q hq
      · rw [List.mem_singleton.mp hq]; exact hz
  rcases hfin with hf0 | ⟨hf1, hf2, hf3⟩
  · rw [if_neg (by rw [hf0]; decide)] at hlay
    exact W.putK C.1 C.2.1 (f := f) ⟨hown, hts _ hlink, ⟨_, _, _, hfi⟩, hst⟩ (by rw [q2]; exact u_store hfc hkC hkind hlay hfi hty hn hfit) q1 q3 (by rw [hsl]; exact k2_hasslot (q4 fk hk).1) rfl rfl hd kk
  · rw [if_pos hf1] at hlay
    have hcf : (g_m G).cls = cf := by
      obtain ⟨_, _, c', _, _, _, -, -, hf', -, -, -, hown2, -⟩ := Cond.laysFinal_spec hlay
      have e1 : c' = cf := by have := hfi.symm.trans hf'; simp at this; exact this.1.symm
      rw [hf3] at hown2
      rw [← e1]; exact Option.some.inj (hown.symm.trans hown2)
    exact W.putFinK C.1 C.2.1 hown (hts _ hlink) hfi hst hcf hf2 (by rw [q2]; exact u_fits hfc hkC hkind (Or.inr hlay) hfi hty hn hfit) q1 q3 (by rw [hsl]; exact k2_hasslot (q4 fk hk).1) rfl rfl hd kk
theorem hs_iaload (C : hp_B cc G) (hK : ∀ pc lv st h w k n, K pc lv st h w k n → hp_W G pc lv st h w k n) (hd : decode cc pc = .ok (.iaload, 1)) {i : Int32} {a N : Nat} {r : List Value} {f : Nat → Int32} (hst : st = .int i :: .ref a :: r) (ha : h[a]? = some (.inl (.int, N, .inl f))) (hin : vp_in i N) (hi : K (pc + 1) lv (hp_el (.inl f) i.toNatClampNeg :: r) h w k n) : hp_W G pc lv st h w k n := by
  subst hst
  intro σ H locs ls a1 a2 a3 a4 a5 a6 a7 a8 a9
  obtain ⟨cell, q1, q2, q3, q4, q5⟩ := a1.2.1 a _ ha
  have hlt : i.toNatClampNeg < N := Nat.not_le.mp fun q => hin (Or.inr q)
  refine W.iald C.1 C.2.1 q1 q2 q3 (by rw [q4]; exact hin) (q5 _ hlt).1 rfl rfl hd ?_
  exact hK _ _ _ _ _ _ _ hi σ H locs ls a1 a2 a3 a4 a5 a6 (fun v hv => by rcases List.mem_cons.mp hv with e | e; (rw [e]; exact (q5 _ hlt).2); exact a7 v (List.mem_cons_of_mem _ (List.mem_cons_of_mem _ e))) a8 a9
theorem hs_ialoadS (C : hp_B cc G) (hK : ∀ pc lv st h w k n, K pc lv st h w k n → hp_W G pc lv st h w k n) (hd : decode cc pc = .ok (.iaload, 1)) {i : Int32} {a N : Nat} {r : List Value} {f : Nat → Int32} (hst : st = .int i :: .ref a :: r) (ha : h[a]? = some (.inl (.float, N, .inl f))) (hin : vp_in i N) (hi : K (pc + 1) lv (hp_el (.inl f) i.toNatClampNeg :: r) h w k n) : hp_W G pc lv st h w k n := by
  subst hst
  intro σ H locs ls a1 a2 a3 a4 a5 a6 a7 a8 a9
  obtain ⟨cell, q1, q2, q3, q4, q5⟩ := a1.2.1 a _ ha
  have hlt : i.toNatClampNeg < N := Nat.not_le.mp fun q => hin (Or.inr q)
  refine W.iald C.1 C.2.1 q1 q2 q3 (by rw [q4]; exact hin) (q5 _ hlt).1 rfl rfl hd ?_
  exact hK _ _ _ _ _ _ _ hi σ H locs ls a1 a2 a3 a4 a5 a6 (fun v hv => by rcases List.mem_cons.mp hv with e | e; (rw [e]; exact (q5 _ hlt).2); exact a7 v (List.mem_cons_of_mem _ (List.mem_cons_of_mem _ e))) a8 a9
theorem hs_laload (C : hp_B cc G) (hK : ∀ pc lv st h w k n, K pc lv st h w k n → hp_W G pc lv st h w k n) (hd : decode cc pc = .ok (.laload, 1)) {i : Int32} {a N : Nat} {r : List Value} {f : Nat → Int64} (hst : st = .int i :: .ref a :: r) (ha : h[a]? = some (.inl (.long, N, .inr <| .inl f))) (hin : vp_in i N) (hi : K (pc + 1) lv (hp_el (.inr <| .inl f) i.toNatClampNeg :: r) h w k n) : hp_W G pc lv st h w k n := by
  subst hst
  intro σ H locs ls a1 a2 a3 a4 a5 a6 a7 a8 a9
  obtain ⟨cell, q1, q2, q3, q4, q5⟩ := a1.2.1 a _ ha
  have hlt : i.toNatClampNeg < N := Nat.not_le.mp fun q => hin (Or.inr q)
  refine W.lald C.1 C.2.1 q1 q2 q3 (by rw [q4]; exact hin) (q5 _ hlt).1 rfl rfl hd ?_
  exact hK _ _ _ _ _ _ _ hi σ H locs ls a1 a2 a3 a4 a5 a6 (fun v hv => by rcases List.mem_cons.mp hv with e | e; (rw [e]; exact (q5 _ hlt).2); exact a7 v (List.mem_cons_of_mem _ (List.mem_cons_of_mem _ e))) a8 a9
theorem hs_zaload (C : hp_B cc G) (hK : ∀ pc lv st h w k n, K pc lv st h w k n → hp_W G pc lv st h w k n) (hd : decode cc pc = .ok (.baload, 1)) {i : Int32} {a N : Nat} {r : List Value} {f : Nat → Int32} (hst : st = .int i :: .ref a :: r) (ha : h[a]? = some (.inl (.boolean, N, .inl f))) (hin : vp_in i N) (hi : K (pc + 1) lv (hp_el (.inl f) i.toNatClampNeg :: r) h w k n) : hp_W G pc lv st h w k n := by
  subst hst
  intro σ H locs ls a1 a2 a3 a4 a5 a6 a7 a8 a9
  obtain ⟨cell, q1, q2, q3, q4, q5⟩ := a1.2.1 a _ ha
  have hlt : i.toNatClampNeg < N := Nat.not_le.mp fun q => hin (Or.inr q)
  refine W.zald C.1 C.2.1 q1 q2 q3 (by rw [q4]; exact hin) (q5 _ hlt).1 rfl rfl hd ?_
  exact hK _ _ _ _ _ _ _ hi σ H locs ls a1 a2 a3 a4 a5 a6 (fun v hv => by rcases List.mem_cons.mp hv with e | e; (rw [e]; exact (q5 _ hlt).2); exact a7 v (List.mem_cons_of_mem _ (List.mem_cons_of_mem _ e))) a8 a9
theorem hs_baload (C : hp_B cc G) (hK : ∀ pc lv st h w k n, K pc lv st h w k n → hp_W G pc lv st h w k n) (hd : decode cc pc = .ok (.baload, 1)) {i : Int32} {a N : Nat} {r : List Value} {f : Nat → Int32} (hst : st = .int i :: .ref a :: r) (ha : h[a]? = some (.inl (.byte, N, .inl f))) (hin : vp_in i N) (hi : K (pc + 1) lv (hp_el (.inl f) i.toNatClampNeg :: r) h w k n) : hp_W G pc lv st h w k n := by
  subst hst
  intro σ H locs ls a1 a2 a3 a4 a5 a6 a7 a8 a9
  obtain ⟨cell, q1, q2, q3, q4, q5⟩ := a1.2.1 a _ ha
  have hlt : i.toNatClampNeg < N := Nat.not_le.mp fun q => hin (Or.inr q)
  refine W.bald C.1 C.2.1 q1 q2 q3 (by rw [q4]; exact hin) (q5 _ hlt).1 rfl rfl hd ?_
  exact hK _ _ _ _ _ _ _ hi σ H locs ls a1 a2 a3 a4 a5 a6 (fun v hv => by rcases List.mem_cons.mp hv with e | e; (rw [e]; exact (q5 _ hlt).2); exact a7 v (List.mem_cons_of_mem _ (List.mem_cons_of_mem _ e))) a8 a9
theorem hs_aaload (C : hp_B cc G) (hK : ∀ pc lv st h w k n, K pc lv st h w k n → hp_W G pc lv st h w k n) (hd : decode cc pc = .ok (.aaload, 1)) {i : Int32} {a N : Nat} {r : List Value} {ty : FieldType} (hty : ty.isReference = true) (hty2 : hp_ty ty = ty) {f : Nat → Option Nat} (hst : st = .int i :: .ref a :: r) (ha : h[a]? = some (.inl (ty, N, .inr (.inr (.inr (.inr f)))))) (hin : vp_in i N) (hi : K (pc + 1) lv (va_rf (f i.toNatClampNeg) :: r) h w k n) : hp_W G pc lv st h w k n := by
  subst hst
  intro σ H locs ls a1 a2 a3 a4 a5 a6 a7 a8 a9
  obtain ⟨cell, q1, q2, q3, q4, q5⟩ := a1.2.1 a _ ha
  rw [hty2] at q2
  have hlt : i.toNatClampNeg < N := Nat.not_le.mp fun q => hin (Or.inr q)
  refine W.aald C.1 C.2.1 q1 q2 hty q3 (by rw [q4]; exact hin) (q5 _ hlt).1 rfl rfl hd ?_
  exact hK _ _ _ _ _ _ _ hi σ H locs ls a1 a2 a3 a4 a5 a6 (fun v hv => by rcases List.mem_cons.mp hv with e | e; (rw [e]; exact (q5 _ hlt).2); exact a7 v (List.mem_cons_of_mem _ (List.mem_cons_of_mem _ e))) a8 a9
/-- the heap behind a store into an array -/
theorem hp_rep_arr {D : va_G} {z : Nat} {U : State} {σ : List Nat} {H H1 : Heap} (r : hp_rep D z U σ h H) {a N i : Nat} {ty : FieldType} {x x' : hp_X} (ha : h[a]? = some (.inl (ty, N, x))) (hty : hp_wr (.inl (ty, N, x)) = true) (hi : i < N)
    {cell : Cell} (q1 : H[σ.getD a 0]? = some cell) (q2 : U.isArrayOf cell (hp_ty ty)) (q3 : cell.vm ≠ .unknown) (q4 : cell.slots.size = N) (q5 : ∀ j, j < N → cell.slots[j]? = some (hp_cv σ (hp_el x j)) ∧ hp_ok σ (hp_el x j)) {v : Value} (hv : hp_ok σ v)
    (hx : ∀ j, j < N → hp_el x' j = if j = i then v else hp_el x j)
    (e1 : H1[σ.getD a 0]? = some (cell.setSlot i (hp_cv σ v))) (e3 : ∀ q, q ≠ σ.getD a 0 → H1[q]? = H[q]?) : hp_rep D z U σ (h.set a (.inl (ty, N, x'))) H1 := by
  refine hp_rep_put r ha hty ⟨_, e1, q2, q3, by simp [Cell.setSlot, q4], fun j hj => ?_⟩ e3 (fun c2 h2 => ?_)
  · rw [hx j hj]
    by_cases e : j = i
    · subst e
      rw [if_pos rfl]
      exact ⟨hp_set_self _ _ (by omega), hv⟩
    · rw [if_neg e, slot_ne _ _ (Ne.symm e)]
      exact q5 j hj
  · rw [e1] at h2
    cases h2
    have hc := q2.1
    show cell.vm.isStatics = false
    cases hvm : cell.vm <;> first | rfl | exact absurd hvm (hc _)
theorem hs_iastore (C : hp_B cc G) (hK : ∀ pc lv st h w k n, K pc lv st h w k n → hp_W G pc lv st h w k n) (hd : decode cc pc = .ok (.iastore, 1)) {i : Int32} {x : Int32} {a N : Nat} {r : List Value} {f : Nat → Int32} (hst : st = .int x :: .int i :: .ref a :: r) (ha : h[a]? = some (.inl (.int, N, .inl f))) (hin : vp_in i N) (hi : K (pc + 1) lv r (h.set a (.inl (.int, N, .inl (upd f i.toNatClampNeg x)))) false k n) : hp_W G pc lv st h w k n := by
  subst hst
  intro σ H locs ls a1 a2 a3 a4 a5 a6 a7 a8 a9
  obtain ⟨cell, q1, q2, q3, q4, q5⟩ := a1.2.1 a _ ha
  have hz : g_z G ≤ σ.getD a 0 := a1.2.2.2.1 a _ ha rfl
  have hlt : i.toNatClampNeg < N := Nat.not_le.mp fun q => hin (Or.inr q)
  refine W.iast C.1 C.2.1 q1 q2 q3 (by rw [q4]; exact hin) rfl rfl hd fun H' e1 e2 e3 => ?_
  
  refine hK _ _ _ _ _ _ _ hi σ H' _ ls (hp_rep_arr (v := .int x) a1 ha rfl hlt q1 q2 q3 q4 q5 trivial (fun j hj => ?_) e1 e3) a2 ⟨by rw [e2]; exact a3.1, fun q hq => ?_⟩ (fun q hq => ?_) (fun q => by cases q) a6 (fun v hv => a7 v (List.mem_cons_of_mem _ (List.mem_cons_of_mem _ (List.mem_cons_of_mem _ hv)))) a8 a9
  · by_cases e : j = i.toNatClampNeg
    · rw [if_pos e]; simp [hp_el, upd, e]
    · rw [if_neg e]; simp [hp_el, upd, e]
  · rw [e3 q (Nat.ne_of_lt (Nat.lt_of_lt_of_le hq hz))]
    exact a3.2 q hq
  · rcases List.mem_append.mp hq with hq | hq
    · exact a4 q hq
    · rw [List.mem_singleton.mp hq]; exact hz
theorem hs_lastore (C : hp_B cc G) (hK : ∀ pc lv st h w k n, K pc lv st h w k n → hp_W G pc lv st h w k n) (hd : decode cc pc = .ok (.lastore, 1)) {i : Int32} {x : Int64} {a N : Nat} {r : List Value} {f : Nat → Int64} (hst : st = .long x :: .int i :: .ref a :: r) (ha : h[a]? = some (.inl (.long, N, .inr <| .inl f))) (hin : vp_in i N) (hi : K (pc + 1) lv r (h.set a (.inl (.long, N, .inr <| .inl (vp_updL f i.toNatClampNeg x)))) false k n) : hp_W G pc lv st h w k n := by
  subst hst
  intro σ H locs ls a1 a2 a3 a4 a5 a6 a7 a8 a9
  obtain ⟨cell, q1, q2, q3, q4, q5⟩ := a1.2.1 a _ ha
  have hz : g_z G ≤ σ.getD a 0 := a1.2.2.2.1 a _ ha rfl
  have hlt : i.toNatClampNeg < N := Nat.not_le.mp fun q => hin (Or.inr q)
  refine W.last C.1 C.2.1 q1 q2 q3 (by rw [q4]; exact hin) rfl rfl hd fun H' e1 e2 e3 => ?_
  
  refine hK _ _ _ _ _ _ _ hi σ H' _ ls (hp_rep_arr (v := .long x) a1 ha rfl hlt q1 q2 q3 q4 q5 trivial (fun j hj => ?_) e1 e3) a2 ⟨by rw [e2]; exact a3.1, fun q hq => ?_⟩ (fun q hq => ?_) (fun q => by cases q) a6 (fun v hv => a7 v (List.mem_cons_of_mem _ (List.mem_cons_of_mem _ (List.mem_cons_of_mem _ hv)))) a8 a9
  · by_cases e : j = i.toNatClampNeg
    · rw [if_pos e]; simp [hp_el, vp_updL, e]
    · rw [if_neg e]; simp [hp_el, vp_updL, e]
  · rw [e3 q (Nat.ne_of_lt (Nat.lt_of_lt_of_le hq hz))]
    exact a3.2 q hq
  · rcases List.mem_append.mp hq with hq | hq
    · exact a4 q hq
    · rw [List.mem_singleton.mp hq]; exact hz
theorem hs_zastore (C : hp_B cc G) (hK : ∀ pc lv st h w k n, K pc lv st h w k n → hp_W G pc lv st h w k n) (hd : decode cc pc = .ok (.bastore, 1)) {i : Int32} {x : Int32} {a N : Nat} {r : List Value} {f : Nat → Int32} (hst : st = .int x :: .int i :: .ref a :: r) (ha : h[a]? = some (.inl (.boolean, N, .inl f))) (hin : vp_in i N) (hnar : narrow .boolean (.int x) = .int x) (hi : K (pc + 1) lv r (h.set a (.inl (.boolean, N, .inl (upd f i.toNatClampNeg x)))) false k n) : hp_W G pc lv st h w k n := by
  subst hst
  intro σ H locs ls a1 a2 a3 a4 a5 a6 a7 a8 a9
  obtain ⟨cell, q1, q2, q3, q4, q5⟩ := a1.2.1 a _ ha
  have hz : g_z G ≤ σ.getD a 0 := a1.2.2.2.1 a _ ha rfl
  have hlt : i.toNatClampNeg < N := Nat.not_le.mp fun q => hin (Or.inr q)
  refine W.zast C.1 C.2.1 q1 q2 q3 (by rw [q4]; exact hin) rfl rfl hd fun H' e1 e2 e3 => ?_
  rw [hnar] at e1
  refine hK _ _ _ _ _ _ _ hi σ H' _ ls (hp_rep_arr (v := .int x) a1 ha rfl hlt q1 q2 q3 q4 q5 trivial (fun j hj => ?_) e1 e3) a2 ⟨by rw [e2]; exact a3.1, fun q hq => ?_⟩ (fun q hq => ?_) (fun q => by cases q) a6 (fun v hv => a7 v (List.mem_cons_of_mem _ (List.mem_cons_of_mem _ (List.mem_cons_of_mem _ hv)))) a8 a9
  · by_cases e : j = i.toNatClampNeg
    · rw [if_pos e]; simp [hp_el, upd, e]
    · rw [if_neg e]; simp [hp_el, upd, e]
  · rw [e3 q (Nat.ne_of_lt (Nat.lt_of_lt_of_le hq hz))]
    exact a3.2 q hq
  · rcases List.mem_append.mp hq with hq | hq
    · exact a4 q hq
    · rw [List.mem_singleton.mp hq]; exact hz
theorem hs_arraylength (C : hp_B cc G) (hK : ∀ pc lv st h w k n, K pc lv st h w k n → hp_W G pc lv st h w k n) (hd : decode cc pc = .ok (.arraylength, 1)) {a N : Nat} {r : List Value} {ty : FieldType} {x : hp_X} (hst : st = .ref a :: r) (ha : h[a]? = some (.inl (ty, N, x))) (hi : K (pc + 1) lv (.int (Int32.ofNat N) :: r) h w k n) : hp_W G pc lv st h w k n := by
  subst hst
  intro σ H locs ls a1 a2 a3 a4 a5 a6 a7 a8 a9
  obtain ⟨cell, q1, q2, q3, q4, q5⟩ := a1.2.1 a _ ha
  refine W.alen (n := Int32.ofNat N) C.1 C.2.1 q1 q2 (by rw [q4]) rfl rfl hd ?_
  exact hK _ _ _ _ _ _ _ hi σ H locs ls a1 a2 a3 a4 a5 a6 (fun v hv => by rcases List.mem_cons.mp hv with e | e; (rw [e]; trivial); exact a7 v (List.mem_cons_of_mem _ e)) a8 a9
def hp_zero (ty : FieldType) : hp_X := match ty with
  | .long => .inr (.inl fun _ => 0)
  | _ => .inl fun _ => 0
theorem hs_newarray (C : hp_B cc G) (hK : ∀ pc lv st h w k n, K pc lv st h w k n → hp_W G pc lv st h w k n) {own : String} (O : hp_O own G) {t : ArrayType} {ty : FieldType} (hty : newarray.typeOf t = ty) (hty2 : ty = .long ∨ ty = .int ∨ ty = .boolean ∨ ty = .byte) (harr : Cond.arrayClass ty ∈ hp_Ts) (hd : decode cc pc = .ok (.newarray t, 2)) {x : Int32} {N : Nat} {r : List Value} (hst : st = .int x :: r)
    (hx : ¬ x < 0) (hN : x.toNatClampNeg = N) (hb : N * componentBytes ty ≤ 536870912) (hc1 : k + 1 ≤ (g_R G).cells) (hc2 : n + N ≤ (g_R G).slots) (hi : K (pc + 2) lv (.ref h.length :: r) (h ++ [.inl (ty, N, hp_zero ty)]) w (k + 1) (n + N)) : hp_W G pc lv st h w k n := by
  subst hst
  subst hty
  intro σ H locs ls a1 a2 a3 a4 a5 a6 a7 a8 a9
  refine W.newaK C.1 C.2.1 (O.1 _ harr) rfl hd rfl hx hN hb hc1 hc2 (h := H.size) rfl fun H' cA e1 e2 e3 e4 => ?_
  have hzH : g_z G ≤ H.size := Nat.le_trans O.2.2.2 a3.1
  have hlen : σ.length = h.length := a1.1
  have hgl : (σ ++ [H.size]).getD h.length 0 = H.size := by rw [← hlen]; simp
  have hat : hp_at (g_D G) (g_s G) (σ ++ [H.size]) (.inl (newarray.typeOf t, N, hp_zero (newarray.typeOf t))) H.size H' := by
    refine ⟨_, e1, ?_, (fun q => by cases q), arrV_size _ _ _, fun j hj => ?_⟩
    · have h4 := e4 N (fun _ => defaultValue (newarray.typeOf t))
      rcases hty2 with e | e | e | e <;> (rw [e] at h4 ⊢; exact h4)
    · rw [arrV_read _ _ hj]
      rcases hty2 with e | e | e | e <;> (rw [e]; exact ⟨rfl, trivial⟩)
  have hW := hK _ _ _ _ _ _ _ hi (σ ++ [H.size]) H' locs ls (hp_rep_push a1 hzH hat (fun q hq => e3 q hq) e2 (fun c2 h2 => by rw [e1] at h2; cases h2; rfl)) (hp_le_tr a2 (hp_le_push _)) ⟨by rw [e2]; exact Nat.le_trans a3.1 (Nat.le_succ _), fun q hq => by rw [e3 q (by omega)]; exact a3.2 q hq⟩ a4 a5 (hp_lv_mono (hp_le_push _) a6)
    (fun v hv => by
      rcases List.mem_cons.mp hv with e | e
      · rw [e]; show h.length < (σ ++ [H.size]).length; simp [hlen]
      · exact hp_ok_mono (hp_le_push _) (a7 v (List.mem_cons_of_mem _ e))) hc1 hc2
  have hmap : ((Value.ref h.length) :: r).map (hp_cv (σ ++ [H.size])) = .ref H.size :: r.map (hp_cv σ) := by
    rw [List.map_cons]
    refine congr (congrArg List.cons ?_) (List.map_congr_left fun v hv => hp_cv_mono (hp_le_push _) (a7 v (List.mem_cons_of_mem _ hv)))
    show Value.ref _ = _
    rw [hgl]
  rw [hmap] at hW
  exact hW
theorem hs_new (C : hp_B cc G) (hK : ∀ pc lv st h w k n, K pc lv st h w k n → hp_W G pc lv st h w k n) {own : String} (O : hp_O own G) (hco : hp_clsok) {ci idx : Nat} {r0 : vw_C} (hc : classes[ci]? = some r0) (hcl : Cond.classLink own idx r0.1 ∈ hp_Ts) (hd : decode cc pc = .ok (.new idx, 3))
    (hc1 : k + 1 ≤ (g_R G).cells) (hc2 : n + r0.2.2 ≤ (g_R G).slots) (hi : K (pc + 3) lv (.ref h.length :: st) (h ++ [.inr (ci, hp_new ci)]) w (k + 1) (n + r0.2.2)) : hp_W G pc lv st h w k n := by
  intro σ H locs ls a1 a2 a3 a4 a5 a6 a7 a8 a9
  obtain ⟨hts, hown, hKn, hzs⟩ := O
  obtain ⟨o1, o2, o3, o4, o5, o6, o7⟩ := hco ci _ hc
  have hKc := hKn.1 ci _ hc
  refine W.newcK C.1 C.2.1 hown (hts _ hcl) (hts _ o4) (hts _ o5) rfl hd hc1 hc2 hKc.2.1 (h := H.size) rfl fun H' kC hkC e1 e2 e3 => ?_
  have hzH : g_z G ≤ H.size := Nat.le_trans hzs a3.1
  have hlen : σ.length = h.length := a1.1
  have hgl : (σ ++ [H.size]).getD h.length 0 = H.size := by rw [← hlen]; simp
  obtain ⟨cell, b1, b2, b3, b4⟩ := u_born (hp_fty ci) hts o1 hKc hkC e1 o2
  have hdef : ∀ (t : FieldType) (τ : List Nat), hp_cv τ (defaultValue t) = defaultValue t ∧ hp_ok τ (defaultValue t) := fun t τ => by cases t <;> exact ⟨rfl, trivial⟩
  have hat : hp_at (g_D G) (g_s G) (σ ++ [H.size]) (.inr (ci, hp_new ci)) H.size H' := by
    refine ⟨r0, cell, hc, b1, b2, b3, fun j hj => ?_⟩
    rw [← o6 j hj, (hdef _ _).1]
    exact ⟨b4 j hj, (hdef _ _).2⟩
  have hW := hK _ _ _ _ _ _ _ hi (σ ++ [H.size]) H' locs ls (hp_rep_push a1 hzH hat (fun q hq => e3 q hq) e2 (fun c2 h2 => by rw [b1] at h2; cases h2; rw [b3]; rfl)) (hp_le_tr a2 (hp_le_push _)) ⟨by rw [e2]; exact Nat.le_trans a3.1 (Nat.le_succ _), fun q hq => by rw [e3 q (by omega)]; exact a3.2 q hq⟩ a4 a5 (hp_lv_mono (hp_le_push _) a6)
    (fun v hv => by
      rcases List.mem_cons.mp hv with e | e
      · rw [e]; show h.length < (σ ++ [H.size]).length; simp [hlen]
      · exact hp_ok_mono (hp_le_push _) (a7 v e)) hc1 hc2
  have hmap : ((Value.ref h.length) :: st).map (hp_cv (σ ++ [H.size])) = .ref H.size :: st.map (hp_cv σ) := by
    rw [List.map_cons]
    refine congr (congrArg List.cons ?_) (List.map_congr_left fun v hv => hp_cv_mono (hp_le_push _) (a7 v hv))
    show Value.ref _ = _
    rw [hgl]
  rw [hmap] at hW
  exact hW
theorem hp_mono_W {p : Program} {l : Launch} {e : Env} {R : Room} {s : State} {m : MethodId} {args : Array Value} {below : List Frame} {meth : Method} {c : Code} {H : Heap} {locs : List Loc} {cells slots : Nat} {Q Q' : State → Prop} {g : JFrame} (hQ : ∀ t, Q t → Q' t) (w : W p l e R s m args below meth c H locs cells slots Q g) : W p l e R s m args below meth c H locs cells slots Q' g := fun T hT X => by
  obtain ⟨t, a, b⟩ := w T hT X
  exact ⟨t, a, hQ t b⟩
/-- what a return leaves, but for the places written -/
def hp_E0 (G : hp_G) : Array Value → State → Outcome → State → Prop := fun _ s o t => ∃ (r : hp_R) (h' : hp_H) (σ' : List Nat), hp_le (g_σ G) σ' ∧ hp_out σ' r o t ∧ hp_rep (g_D G) (g_z G) t σ' h' t.heap ∧ hp_fr (g_z G) s.heap t.heap ∧ g_Q G r h'
theorem hp_Z_of {t : State} (h : MQ (g_b G) (hp_E0 G) (g_a G) (g_s G) (g_R G).cells (g_R G).slots (fun q => g_z G ≤ q ∧ g_w G = false) t) : hp_Z G t := by
  obtain ⟨o, h1, h2, ⟨r, h', σ', b1, b2, b3, b4, b5⟩, L, ⟨-, hW, hs⟩, hL⟩ := h
  refine ⟨o, h1, h2, r, h', σ', b1, b2, b3, b4, b5, hW, L, hs, fun q hq => (hL q hq).1, fun e => ?_⟩
  cases L with
  | nil => rfl
  | cons q _ =>
    have := (hL q List.mem_cons_self).2
    rw [e] at this
    cases this
/-- the method may end here: its mark keeps -/
def hp_end (G : hp_G) (w : Bool) (P : Prop) : Prop := cond (!(g_w G) || w) P False
theorem hp_end_of {P : Prop} (h : hp_end G w P) : (g_w G = true → w = true) ∧ P := by
  unfold hp_end at h
  cases hg : g_w G with
  | false =>
    rw [hg] at h
    exact ⟨(fun e => by cases e), (by cases w <;> exact h)⟩
  | true =>
    rw [hg] at h
    cases w with
    | true => exact ⟨fun _ => rfl, h⟩
    | false => exact False.elim h
theorem hp_ret {H : Heap} {locs : List Loc} {σ : List Nat} (a1 : hp_rep (g_D G) (g_z G) (g_s G) σ h H) (a2 : hp_le (g_σ G) σ) (a3 : hp_fr (g_z G) (g_s G).heap H) {r : hp_R} {o : Outcome} (ho : ∀ t : State, hp_out σ r o t) (hq : g_Q G r h) (t : State) (ht : t.heap = H) (hW : (g_s G).WarmedH t.vm) : hp_E0 G (g_a G) (g_s G) o t :=
  ⟨r, h, σ, a2, ho t, by rw [ht]; exact hp_rep_moved hW.alike a1, by rw [ht]; exact a3, hq⟩
theorem hp_fre {locs : List Loc} (a4 : ∀ q ∈ locs, g_z G ≤ q.base) (a5 : w = true → locs = []) (hw : g_w G = true → w = true) : ∀ q ∈ locs, (fun q => g_z G ≤ q ∧ g_w G = false) q.base := by
  intro q hq
  refine ⟨a4 q hq, ?_⟩
  cases hg : g_w G with
  | false => rfl
  | true =>
    rw [a5 (hw hg)] at hq
    cases hq
theorem hs_ireturn (C : hp_B cc G) (hK : ∀ pc lv st h w k n, K pc lv st h w k n → hp_W G pc lv st h w k n) {ty : FieldType} (hr : (g_me G).sig.returnType = some ty) (hlk : (g_me G).locks = false) (hd : decode cc pc = .ok (.ireturn, 1)) {x : Int32} (hst : st = [.int x]) (hi : narrow ty (.int x) = .int x ∧ hp_end G w (g_Q G (.inl (some (.int x))) h)) : hp_W G pc lv st h w k n := by
  subst hst
  obtain ⟨hn, hiq⟩ := hi
  obtain ⟨hw, hq⟩ := hp_end_of hiq
  intro σ H locs ls a1 a2 a3 a4 a5 a6 a7 a8 a9
  refine W.widen a8 a9 (hp_mono_W (fun t => hp_Z_of) ?_)
  exact W.zret C.1 C.2.1 hr hn (hp_ret (locs := locs) a1 a2 a3 (r := .inl (some (.int x))) (fun _ => ⟨trivial, rfl⟩) hq) (hp_fre a4 a5 hw) hd hlk
theorem hs_lreturn (C : hp_B cc G) (hK : ∀ pc lv st h w k n, K pc lv st h w k n → hp_W G pc lv st h w k n) (hr : (g_me G).sig.returnType = some .long) (hlk : (g_me G).locks = false) (hd : decode cc pc = .ok (.lreturn, 1)) {x : Int64} (hst : st = [.long x]) (hi : hp_end G w (g_Q G (.inl (some (.long x))) h)) : hp_W G pc lv st h w k n := by
  subst hst
  skip
  obtain ⟨hw, hq⟩ := hp_end_of hi
  intro σ H locs ls a1 a2 a3 a4 a5 a6 a7 a8 a9
  refine W.widen a8 a9 (hp_mono_W (fun t => hp_Z_of) ?_)
  exact W.lret C.1 C.2.1 hr (hp_ret (locs := locs) a1 a2 a3 (r := .inl (some (.long x))) (fun _ => ⟨trivial, rfl⟩) hq) (hp_fre a4 a5 hw) hd hlk
theorem hs_return (C : hp_B cc G) (hK : ∀ pc lv st h w k n, K pc lv st h w k n → hp_W G pc lv st h w k n) (hr : (g_me G).sig.returnType = none) (hlk : (g_me G).locks = false) (hd : decode cc pc = .ok (.return_, 1)) (hst : st = []) (hi : hp_end G w (g_Q G (.inl none) h)) : hp_W G pc lv st h w k n := by
  subst hst
  obtain ⟨hw, hq⟩ := hp_end_of hi
  intro σ H locs ls a1 a2 a3 a4 a5 a6 a7 a8 a9
  refine W.widen a8 a9 (hp_mono_W (fun t => hp_Z_of) ?_)
  exact W.vret C.1 C.2.1 hr (hp_ret (locs := locs) a1 a2 a3 (r := .inl none) (fun _ => rfl) hq) (hp_fre a4 a5 hw) hd hlk
theorem hs_areturn (C : hp_B cc G) (hK : ∀ pc lv st h w k n, K pc lv st h w k n → hp_W G pc lv st h w k n) {rt : FieldType} (hr : (g_me G).sig.returnType = some rt) (hrt : (∃ n, rt = .object n) ∨ ∃ t, rt = .array t) (hlk : (g_me G).locks = false) (hd : decode cc pc = .ok (.areturn, 1)) {x : Nat} (hst : st = [.ref x]) (hi : hp_end G w (g_Q G (.inl (some (.ref x))) h)) : hp_W G pc lv st h w k n := by
  subst hst
  obtain ⟨hw, hq⟩ := hp_end_of hi
  intro σ H locs ls a1 a2 a3 a4 a5 a6 a7 a8 a9
  refine W.widen a8 a9 (hp_mono_W (fun t => hp_Z_of) ?_)
  exact W.aret C.1 C.2.1 hr hrt (Or.inr ⟨_, rfl⟩) (hp_ret (locs := locs) a1 a2 a3 (r := .inl (some (.ref x))) (fun _ => ⟨a7 _ List.mem_cons_self, rfl⟩) hq) (hp_fre a4 a5 hw) hd hlk
end HpM
