/-! new T[n][m]: the outer one, then its rows -/
theorem hp_le_app (σ τ : List Nat) : hp_le σ (σ ++ τ) :=
  ⟨by simp, fun k hk => by rw [List.getD_eq_getElem?_getD, List.getD_eq_getElem?_getD, List.getElem?_append_left hk]⟩
theorem ns_get (b N : Nat) {i : Nat} (hi : i < N) : ((List.range N).map fun i => b + i)[i]? = some (b + i) := by
  rw [List.getElem?_map, List.getElem?_range hi]
  rfl
theorem ns_at (σ : List Nat) (b N : Nat) {i : Nat} (hi : i < N) : (σ ++ (List.range N).map fun i => b + i).getD (σ.length + i) 0 = b + i := by
  rw [List.getD_eq_getElem?_getD, List.getElem?_append_right (Nat.le_add_right _ _), Nat.add_sub_cancel_left, ns_get b N hi]
  rfl
theorem hp_rep_many {D : va_G} {z : Nat} {U : State} {σ : List Nat} {h : hp_H} {H H1 : Heap} (r : hp_rep D z U σ h H) (cs : List hp_C) (hz : z ≤ H.size)
    (hn : ∀ i c, cs[i]? = some c → hp_at D U (σ ++ (List.range cs.length).map fun i => H.size + i) c (H.size + i) H1) (ho : ∀ q, q < H.size → H1[q]? = H[q]?) (hs : ∀ (q : Nat) (cell : Cell), H.size ≤ q → H1[q]? = some cell → cell.vm.isStatics = false) : hp_rep D z U (σ ++ (List.range cs.length).map fun i => H.size + i) (h ++ cs) H1 := by
  have hlt := fun k hk => hp_rep_lt r (k := k) hk
  obtain ⟨r1, r2, r3, r4, r5⟩ := r
  have hg : ∀ k, k < σ.length → (σ ++ (List.range cs.length).map fun i => H.size + i).getD k 0 = σ.getD k 0 := fun k hk => (hp_le_app σ _).2 k hk
  have hgl : ∀ k, h.length ≤ k → k < h.length + cs.length → (σ ++ (List.range cs.length).map fun i => H.size + i).getD k 0 = H.size + (k - h.length) := fun k h1 h2 => by
    have := ns_at σ H.size cs.length (i := k - h.length) (by omega)
    rw [show σ.length + (k - h.length) = k by omega] at this
    exact this
  refine ⟨by simp [r1], fun k c2 hk => ?_, fun i j hi hj e => ?_, fun k c2 hk hw2 => ?_, fun q cell hq hc => ?_⟩
  · rcases Nat.lt_or_ge k h.length with hk' | hk'
    · rw [List.getElem?_append_left hk'] at hk
      rw [hg k (by omega)]
      exact hp_at_to (hp_le_app _ _) (ho _ (hlt k (by omega))) (r2 k c2 hk)
    · rw [List.getElem?_append_right hk'] at hk
      have hkl := (List.getElem?_eq_some_iff.mp hk).1
      rw [hgl k hk' (by omega)]
      exact hn _ _ hk
  · simp only [List.length_append, List.length_map, List.length_range] at hi hj
    rcases Nat.lt_or_ge i σ.length with hi' | hi' <;> rcases Nat.lt_or_ge j σ.length with hj' | hj'
    · rw [hg i hi', hg j hj'] at e
      exact r3 i j hi' hj' e
    · rw [hg i hi', hgl j (by omega) (by omega)] at e
      have := hlt i hi'
      omega
    · rw [hg j hj', hgl i (by omega) (by omega)] at e
      have := hlt j hj'
      omega
    · rw [hgl i (by omega) (by omega), hgl j (by omega) (by omega)] at e
      omega
  · rcases Nat.lt_or_ge k h.length with hk' | hk'
    · rw [List.getElem?_append_left hk'] at hk
      rw [hg k (by omega)]
      exact r4 k c2 hk hw2
    · rw [List.getElem?_append_right hk'] at hk
      have hkl := (List.getElem?_eq_some_iff.mp hk).1
      rw [hgl k hk' (by omega)]
      omega
  · rcases Nat.lt_or_ge q H.size with hq' | hq'
    · rw [ho q hq'] at hc
      exact r5 q cell hq hc
    · exact hs q cell hq' hc
theorem mn_outer (c : ClassId) (N h0 : Nat) : ∀ i, i ≤ N → (Jvm.Free.Multi.outerC c N h0 i).slots.size = N ∧ ∀ j, j < i → (Jvm.Free.Multi.outerC c N h0 i).slots[j]? = some (.ref (h0 + 1 + j))
  | 0, _ => ⟨by show (Array.replicate N Value.null).size = N; simp, fun j hj => absurd hj (Nat.not_lt_zero _)⟩
  | i + 1, hi => by
    obtain ⟨h1, h2⟩ := mn_outer c N h0 i (by omega)
    refine ⟨?_, fun j hj => ?_⟩
    · show ((Jvm.Free.Multi.outerC c N h0 i).setSlot i (.ref (h0 + 1 + i))).slots.size = N
      refine Eq.trans ?_ h1
      simp [Cell.setSlot]
    · show ((Jvm.Free.Multi.outerC c N h0 i).setSlot i (.ref (h0 + 1 + i))).slots[j]? = _
      by_cases e : j = i
      · subst e
        exact hp_set_self _ _ (by omega)
      · have := h2 j (by omega)
        rw [← this]
        simp [Cell.setSlot, Array.getElem?_setIfInBounds, Ne.symm e]
/-- the cells that it makes -/
def mnC (b : Nat) (ty : FieldType) (N M : Nat) : List hp_C := (.inl (.array ty, N, .inr (.inr (.inr (.inr fun i => some (b + 1 + i)))))) :: (List.range N).map fun _ => .inl (ty, M, hp_zero ty)
theorem mnC_len (b : Nat) (ty : FieldType) (N M : Nat) : (mnC b ty N M).length = N + 1 := by
  unfold mnC
  simp
theorem hs_mna {cc : ByteArray} {G : hp_G} (C : hp_B cc G) {own : String} (O : hp_O own G) {idx pc : Nat} {ty : FieldType} (hty2 : ty = .long ∨ ty = .int) (v1 : Jvm.Cond.classLink own idx ("[" ++ (FieldType.array ty).toString) ∈ hp_Ts) (v2 : Jvm.Cond.arrayOver (.array ty) ∈ hp_Ts) (v3 : Jvm.Cond.arrayClass ty ∈ hp_Ts)
    (hd : decode cc pc = .ok (.multianewarray idx 2, 4)) {lv : hp_L} {st r : List Value} {h : hp_H} {w : Bool} {k n N M : Nat} (hN : N ≤ 1000) (hM : M ≤ 1000) (hst : st = .int (nI M) :: .int (nI N) :: r) (hc1 : k + (1 + N) ≤ (g_R G).cells) (hc2 : n + (N + N * M) ≤ (g_R G).slots)
    (hi : hp_W G (pc + 4) lv (.ref h.length :: r) (h ++ mnC h.length ty N M) w (k + 1 + N) (n + N + N * M)) : hp_W G pc lv st h w k n := by
  subst hst
  intro σ H locs ls a1 a2 a3 a4 a5 a6 a7 a8 a9
  intro T hT Xs
  have eN : (nI N).toNatClampNeg = N := nI_clamp (by omega)
  have eM : (nI M).toNatClampNeg = M := nI_clamp (by omega)
  have hb2 : M * componentBytes ty ≤ 536870912 := by rcases hty2 with e | e <;> (rw [e]; show M * _ ≤ _; simp [componentBytes]; omega)
  obtain ⟨vm₁, cA, comp, -, fA, fC, hO, hI, X', step⟩ := Xs.multianewarray2F C.1 O.2.1 (O.1 _ v1) (O.1 _ v2) (O.1 _ v3) (g := F0 (g_m G) pc ls (.int (nI M) :: .int (nI N) :: r.map (hp_cv σ))) rfl (by rw [C.2.1]; exact hd) rfl (nI_pos (by omega)) (nI_pos (by omega)) (by rw [eN]; omega) (by rw [eM]; exact hb2) (by rw [eM]; omega) (by rcases hty2 with e | e <;> (rw [e]; rfl)) (by rcases hty2 with e | e <;> (rw [e]; rfl)) (by rw [eN]; exact hc1) (by rw [eN, eM]; exact hc2)
  rw [eN, eM] at X' step
  generalize hF : Jvm.Free.Multi.fill (T.setVm vm₁) cA comp N M (defaultValue ty) N = F at X' step
  have hTh : (T.setVm vm₁).heap = H := hT
  obtain ⟨f1, f2, -, -⟩ := Jvm.Free.Multi.fill_facts (T.setVm vm₁) cA comp N M (defaultValue ty) N
  rw [hF, hTh] at f1 f2
  have hold : ∀ x : Nat, x < H.size → F.heap[x]? = H[x]? := fun x hx => by
    have := Jvm.Free.Multi.fill_old (T.setVm vm₁) cA comp N M (defaultValue ty) (a := x) (by rw [hTh]; exact hx) N
    rw [hF, hTh] at this
    exact this
  have hrow : ∀ j : Nat, j < N → F.heap[H.size + 1 + j]? = some (Jvm.Free.Multi.innerC comp M (defaultValue ty)) := fun j hj => by
    have := Jvm.Free.Multi.fill_inner (T.setVm vm₁) cA comp N M (defaultValue ty) N j hj
    rw [hF, hTh] at this
    exact this
  have hzH : g_z G ≤ H.size := Nat.le_trans O.2.2.2 a3.1
  have hlen : σ.length = h.length := a1.1
  obtain ⟨ou1, ou2⟩ := mn_outer cA N H.size N (Nat.le_refl _)
  have hfs : F.heap.size = H.size + 1 + N := f1
  have hst2 : ∀ (q : Nat) (cell : Cell), H.size ≤ q → F.heap[q]? = some cell → cell.vm.isStatics = false := fun q cell hq hc => by
    have hql : q < F.heap.size := (Array.getElem?_eq_some_iff.mp hc).1
    rcases Nat.lt_or_ge H.size q with c | c
    · have := hrow (q - H.size - 1) (by omega)
      rw [show H.size + 1 + (q - H.size - 1) = q by omega, hc] at this
      cases this
      rfl
    · rw [show q = H.size by omega, f2] at hc
      cases hc
      cases hv : (Jvm.Free.Multi.outerC cA N H.size N).vm.isStatics with
      | false => rfl
      | true =>
        exfalso
        have : ∀ i, (Jvm.Free.Multi.outerC cA N H.size i).vm = .none := fun i => by
          induction i with
          | zero => rfl
          | succ i ih => exact ih
        rw [this N] at hv
        cases hv
  have hrep := hp_rep_many a1 (mnC h.length ty N M) hzH (H1 := F.heap) (fun i c hc => by
    rw [mnC_len]
    cases i with
    | zero =>
      have e : c = .inl (.array ty, N, .inr (.inr (.inr (.inr fun i => some (h.length + 1 + i))))) := (Option.some.inj hc).symm
      subst e
      refine ⟨_, f2, (hO N H.size N).1, (hO N H.size N).2, ou1, fun j hj => ?_⟩
      have hat := ns_at σ H.size (N + 1) (i := 1 + j) (by omega)
      rw [hlen] at hat
      refine ⟨?_, ?_⟩
      · rw [ou2 j hj]
        show some (Value.ref (H.size + 1 + j)) = some (Value.ref _)
        rw [show h.length + 1 + j = h.length + (1 + j) by omega, hat, Nat.add_assoc]
      · show h.length + 1 + j < _
        simp [hlen]
        omega
    | succ i =>
      have hil : i < N := by
        have := (List.getElem?_eq_some_iff.mp hc).1
        rw [mnC_len] at this
        omega
      have e : c = .inl (ty, M, hp_zero ty) := by
        have h1 : (mnC h.length ty N M)[i + 1]? = ((List.range N).map fun _ => (.inl (ty, M, hp_zero ty) : hp_C))[i]? := rfl
        rw [h1, List.getElem?_map, List.getElem?_range hil] at hc
        exact (Option.some.inj hc).symm
      subst e
      have hr := hrow i hil
      rw [show H.size + 1 + i = H.size + (i + 1) by omega] at hr
      have hsz : (Jvm.Free.Multi.innerC comp M (defaultValue ty)).slots.size = M := by show (Array.replicate M (defaultValue ty)).size = M; simp
      have hii := hI M (defaultValue ty)
      have hsl : ∀ j, j < M → (Jvm.Free.Multi.innerC comp M (defaultValue ty)).slots[j]? = some (defaultValue ty) := fun j hj => by show (Array.replicate M (defaultValue ty))[j]? = _; simp [hj]
      rcases hty2 with e | e
      · subst e
        exact ⟨_, hr, hii.1, hii.2, hsz, fun j hj => ⟨hsl j hj, trivial⟩⟩
      · subst e
        exact ⟨_, hr, hii.1, hii.2, hsz, fun j hj => ⟨hsl j hj, trivial⟩⟩) hold hst2
  rw [mnC_len] at hrep
  have hle := hp_le_app σ ((List.range (N + 1)).map fun i => H.size + i)
  have hW := hi _ F.heap locs ls hrep (hp_le_tr a2 hle) ⟨by rw [hfs]; have := a3.1; omega, fun q hq => by rw [hold q (by omega)]; exact a3.2 q hq⟩ a4 a5 (hp_lv_mono hle a6)
    (fun v hv => by
      rcases List.mem_cons.mp hv with e | e
      · rw [e]; show h.length < _; simp [hlen]
      · exact hp_ok_mono hle (a7 v (List.mem_cons_of_mem _ (List.mem_cons_of_mem _ e)))) (by omega) (by omega)
  have hmap : ((Value.ref h.length) :: r).map (hp_cv (σ ++ (List.range (N + 1)).map fun i => H.size + i)) = .ref H.size :: r.map (hp_cv σ) := by
    rw [List.map_cons]
    refine congr (congrArg List.cons ?_) (List.map_congr_left fun v hv => hp_cv_mono hle (a7 v (List.mem_cons_of_mem _ (List.mem_cons_of_mem _ hv))))
    show Value.ref _ = _
    have hat := ns_at σ H.size (N + 1) (i := 0) (by omega)
    rw [hlen] at hat
    exact congrArg Value.ref hat
  rw [hmap] at hW
  obtain ⟨t, b1, b2⟩ := hW F rfl X'
  refine ⟨t, step t ?_, b2⟩
  have e : T.heap.size = H.size := by rw [hT]
  rw [e]
  exact b1
