/-! System.arraycopy of longs, from place 0 to place 0 -/
set_option maxHeartbeats 4000000 in
theorem hs_copyl {T : hp_T} {Y : hp_Y} {l : Launch} {w0 : Bool} {dk dn : Nat} {Q : hp_R → hp_H → Prop} {G : hp_G} (C : hp_ctx T Y l w0 dk dn Q G) {idx pc : Nat} {lv : hp_L} {st r : List Value} {h : hp_H} {w : Bool} {k n : Nat}
    (v1 : Jvm.Cond.methodLink (t_own T) idx arraycopyName ∈ hp_Ts) (v2 : Jvm.Cond.native arraycopyName ∈ hp_Ts) (v3 : Jvm.Cond.static arraycopyName ∈ hp_Ts) (v4 : Jvm.Cond.initialized "java/lang/System" ∈ hp_Ts) (hd : decode (y_cc Y) pc = .ok (.invokestatic idx, 3))
    {a b N M L : Nat} {f g : Nat → Int64} (hL : L < 2 ^ 31) (hst : st = .int (nI L) :: .int (nI 0) :: .ref b :: .int (nI 0) :: .ref a :: r) (ha : h[a]? = some (.inl (.long, N, .inr (.inl f)))) (hb : h[b]? = some (.inl (.long, M, .inr (.inl g)))) (hN : L ≤ N) (hM : L ≤ M)
    (hfr : 1 ≤ y_fr Y) (hlo : (r.map fun v => v.category).sum + 18 ≤ y_lo Y) (hi : hp_W G (pc + 3) lv r (h.set b (.inl (.long, M, .inr (.inl fun j => if j < L then f j else g j)))) false k n) : hp_W G pc lv st h w k n := by
  subst hst
  obtain ⟨B, O, hn, hR, hl, hw, hQ, hrt, hlk, hnm, hex, hnt, hth⟩ := C
  intro σ H locs ls a1 a2 a3 a4 a5 a6 a7 a8 a9 T0 hT X
  obtain ⟨hts, hown, hKn, hzs⟩ := O
  obtain ⟨cs, p1, ⟨p2, ks, pk, cm0, hkk0⟩, p3, p4, p5⟩ := a1.2.1 a _ ha
  obtain ⟨cd, q1, ⟨q2, kd, qk, cm1, hkk1⟩, q3, q4, q5⟩ := a1.2.1 b _ hb
  have hz : g_z G ≤ σ.getD b 0 := a1.2.2.2.1 b _ hb rfl
  have hL0 : (nI L).toNatClampNeg = L := nI_clamp hL
  have h00 : (nI 0).toNatClampNeg = 0 := rfl
  have hLi : (nI L).toInt = (L : Int) := nI_toInt hL
  have h0i : (nI 0).toInt = 0 := rfl
  have hcat : ((r.map (hp_cv σ)).map fun v => v.category) = r.map fun v => v.category := by
    rw [List.map_map]
    exact List.map_congr_left fun v _ => hp_cv_cat σ v
  have hrd : ∀ i, i < L → cs.slots.getD i .null = .long (f i) := fun i hi2 => by
    rw [Array.getD_eq_getD_getElem?, (p5 i (by omega)).1]
    rfl
  obtain ⟨vm', X', step⟩ := X.arraycopy B.1 hown (hts _ v1) (hts _ v2) (hts _ v3) (hts _ v4) (src := σ.getD a 0) (dst := σ.getD b 0) (cs := cs) (cd := cd) (srcPos := nI 0) (destPos := nI 0) (n := nI L) (by rw [hT]; exact p1) (by rw [hT]; exact q1)
    p2 q2 p3 q3 pk qk hkk0 hkk1 rfl (nI_pos (by decide)) (nI_pos (by decide)) (nI_pos hL)
    (by rw [h0i, hLi, p4]; omega) (by rw [h0i, hLi, q4]; omega)
    (fun vm₁ _ i hi2 => by
      rw [hL0] at hi2
      rw [h00, Nat.zero_add, hrd i hi2]
      exact ⟨rfl, trivial⟩)
    (g := F0 (g_m G) pc ls (.int (nI L) :: .int (nI 0) :: .ref (σ.getD b 0) :: .int (nI 0) :: .ref (σ.getD a 0) :: r.map (hp_cv σ))) rfl (a6.1.trans B.2.2.symm) (rest := r.map (hp_cv σ)) rfl (by rw [B.2.1]; exact hd) (by rw [hR]; exact hfr) (by rw [hR]; show 2 * 0 + ((r.map (hp_cv σ)).map fun v => v.category).sum + (7 + 11) ≤ y_lo Y; rw [hcat]; omega)
  obtain ⟨c1, c2, c3, c4, c5⟩ := Cell.storeRun_facts cd 0 (cs.stretch 0 L)
  have hlen : (cs.stretch 0 L).length = L := by unfold Cell.stretch; rw [List.length_map, List.length_range]
  have hget : ∀ j, (cd.storeRun 0 (cs.stretch 0 L)).slots[j]? = if j < L then some (.long (f j)) else cd.slots[j]? := fun j => by
    rw [Cell.storeRun_get cd 0 (cs.stretch 0 L) j (by rw [hlen, q4]; omega), hlen]
    by_cases hj : j < L
    · rw [if_pos ⟨Nat.zero_le _, by omega⟩, if_pos hj]
      unfold Cell.stretch
      rw [List.getElem?_map, List.getElem?_range (by omega)]
      show some (cs.slots.getD (0 + (j - 0)) .null) = _
      rw [Nat.zero_add, Nat.sub_zero, hrd j hj]
    · rw [if_neg (fun q => hj (by omega)), if_neg hj]
  have hcp : copied cs cd (nI 0) (nI 0) (nI L) = cd.storeRun 0 (cs.stretch 0 L) := by
    show cd.storeRun (nI 0).toNatClampNeg (cs.stretch (nI 0).toNatClampNeg (nI L).toNatClampNeg) = _
    rw [hL0]
    rfl
  rw [hcp] at X' step
  have hlb : σ.getD b 0 < H.size := (Array.getElem?_eq_some_iff.mp q1).1
  have hheap : ((T0.setVm vm').setCell (σ.getD b 0) (cd.storeRun 0 (cs.stretch 0 L))).heap = H.setIfInBounds (σ.getD b 0) (cd.storeRun 0 (cs.stretch 0 L)) := by rw [← hT]; rfl
  have oq : ∀ q : Nat, q ≠ σ.getD b 0 → (H.setIfInBounds (σ.getD b 0) (cd.storeRun 0 (cs.stretch 0 L)))[q]? = H[q]? := fun q hq => by rw [Array.getElem?_setIfInBounds_ne (Ne.symm hq)]
  have e1 : (H.setIfInBounds (σ.getD b 0) (cd.storeRun 0 (cs.stretch 0 L)))[σ.getD b 0]? = some (cd.storeRun 0 (cs.stretch 0 L)) := by rw [Array.getElem?_setIfInBounds, if_pos rfl, if_pos hlb]
  have hrep : hp_rep (g_D G) (g_z G) (g_s G) σ (h.set b (.inl (.long, M, .inr (.inl fun j => if j < L then f j else g j)))) (H.setIfInBounds (σ.getD b 0) (cd.storeRun 0 (cs.stretch 0 L))) := by
    refine hp_rep_put a1 hb rfl ⟨_, e1, ⟨fun q => by rw [c2]; exact q2 q, kd, by rw [c1]; exact qk, cm1, hkk1⟩, by rw [c2]; exact q3, by rw [c3]; exact q4, fun j hj => ?_⟩ oq (fun c6 h6 => ?_)
    · rw [hget j]
      by_cases hj2 : j < L
      · rw [if_pos hj2]
        show some _ = some (hp_cv σ (.long (if j < L then f j else g j))) ∧ hp_ok σ (.long _)
        rw [if_pos hj2]
        exact ⟨rfl, trivial⟩
      · rw [if_neg hj2]
        show _ = some (hp_cv σ (.long (if j < L then f j else g j))) ∧ hp_ok σ (.long _)
        rw [if_neg hj2]
        exact q5 j hj
    · rw [e1] at h6
      cases h6
      rw [c2]
      cases hvm : cd.vm <;> first | rfl | exact absurd hvm (q2 _)
  obtain ⟨t, t1, t2⟩ := hi σ _ _ ls hrep a2 ⟨by rw [Array.size_setIfInBounds]; exact a3.1, fun q hq => by rw [oq q (Nat.ne_of_lt (Nat.lt_of_lt_of_le hq hz))]; exact a3.2 q hq⟩ (fun q hq => by
      rcases List.mem_append.mp hq with e | e
      · exact a4 q e
      · obtain ⟨z9, -, hz9⟩ := List.mem_map.mp e
        rw [← hz9]
        exact hz) (fun q => by cases q) a6 (fun v hv => a7 v (List.mem_cons_of_mem _ (List.mem_cons_of_mem _ (List.mem_cons_of_mem _ (List.mem_cons_of_mem _ (List.mem_cons_of_mem _ hv)))))) a8 a9 _ hheap X'
  exact ⟨t, step t t1, t2⟩
theorem cp_link : Jvm.Cond.methodLink "EdgeSweeps$Rows" 26 arraycopyName ∈ hp_Ts := tm_in (List.mem_of_getElem? (i := 391) (by decide +kernel))
theorem cp_nat : Jvm.Cond.native arraycopyName ∈ hp_Ts := tm_in (List.mem_of_getElem? (i := 393) (by decide +kernel))
theorem cp_stat : Jvm.Cond.static arraycopyName ∈ hp_Ts := tm_in (List.mem_of_getElem? (i := 392) (by decide +kernel))
theorem cp_ini : Jvm.Cond.initialized "java/lang/System" ∈ hp_Ts := tm_in (List.mem_of_getElem? (i := 15) (by decide +kernel))
theorem hq_dec {T : hp_T} {Y : hp_Y} (V : hp_val T Y) {pc : Nat} {i : Instr} (h : hp_lk (t_code T) pc = some i) {n : Nat} (hn : hp_len i = n + 1) : decode (y_cc Y) pc = .ok (i, n + 1) := by
  obtain ⟨len, h1, h2⟩ := V.1 _ (hp_lk_mem _ _ _ h)
  rcases h2 with e | e
  · rw [e] at hn; cases hn
  · rw [← hn, ← e]; exact h1
set_option maxRecDepth 20000 in
theorem c_ro_copy (l : Launch) (h : hp_H) (a b : Nat) (f g : Nat → Int64) (ha : h[a]? = some (.inl (.long, 64, .inr (.inl f)))) (hb : h[b]? = some (.inl (.long, 64, .inr (.inl g)))) :
    hp_M l Y_ro_copy [.ref a, .ref b] h false 0 0 (hq_P (.inl none) (h.set b (.inl (.long, 64, .inr (.inl fun j => if j < 64 then f j else g j))))) := by
  refine hp_start (T := T_ro_copy) (by decide) rfl (fun σ => Nat.le_of_ble_eq_true rfl) (fun G C => ?_)
  refine hp_run_sound hp_co V_ro_copy C (fun _ _ _ _ _ _ _ hq => hq) [6] 8 _ _ _ _ _ _ _ ?_
  refine hs_copyl C cp_link cp_nat cp_stat cp_ini (hq_dec V_ro_copy rfl rfl) (L := 64) (by decide) rfl ha hb (Nat.le_refl _) (Nat.le_refl _) (by decide) (by decide) ?_
  refine hp_run_sound hp_co V_ro_copy C (fun _ _ _ _ _ _ _ hq => hq) [] 3 _ _ _ _ _ _ _ ?_
  exact And.intro rfl (And.intro rfl (And.intro rfl rfl))
