/-! a call inside a try -/
theorem hp_catch_in {cc : ByteArray} {G : hp_G} (C : hp_B cc G) {own : String} (O : hp_O own G) (hth : hp_thr (g_z G) (g_s G)) {pc hp nx i : Nat} {ci : Nat} {lv : hp_L} {h : hp_H} {w : Bool} {k n : Nat} (pre : List ExceptionTableEntry) (x : ExceptionTableEntry) (suf : List ExceptionTableEntry) (hsplit : (g_c G).exceptionTable.toList = pre ++ x :: suf)
    (hpass : ∀ z ∈ pre, z.catchType ≠ 0 ∧ ∃ nm : String, Jvm.Cond.classLink own z.catchType nm ∈ hp_Ts ∧ (hp_exn ci, nm) ∈ hp_ncs) (hx : covers x pc = true) (h0 : x.catchType ≠ 0) (hlink : Jvm.Cond.classLink own x.catchType (hp_exn ci) ∈ hp_Ts) (hcast : Jvm.Cond.castable (hp_exn ci) (hp_exn ci) ∈ hp_Ts)
    (hhp : x.handlerPc = hp) (hi : i < g_n G) (hd : decode cc hp = .ok (.astore i, 2) ∧ nx = hp + 2 ∨ ∃ j : Fin 4, decode cc hp = .ok (.astore_n j, 1) ∧ j.val = i ∧ nx = hp + 1) (kk : hp_W G nx [] [] h w k n) : hp_catch G pc h w k n ci lv := by
  intro T locs ls σ rest xx cell a1 a2 a3 a4 a5 a6 a8 a9 c1 c2 c3 X
  have hpl : (g_e G).platform.magicAccessors = ({} : Platform).magicAccessors := by rw [X.admits.platform]
  obtain ⟨d3, c4, hc3, hc4, hasg⟩ := Cond.castable_spec (O.1 _ hcast)
  cases Option.some.inj (hc3.symm.trans c3)
  obtain ⟨c5, hc5, hcl5⟩ := Cond.classLink_spec O.2.1 (O.1 _ hlink) (g_e G).platform hpl
  cases Option.some.inj (hc4.symm.trans hc5)
  obtain ⟨vm', X', st⟩ := X.thenCaughtThrough xx (g := F0 (g_m G) pc ls rest) rfl (Steps.refl _) c1 (by rw [c2]; rfl) (by obtain ⟨k9, h9, -⟩ := Vm.findClass_spec c3; exact ⟨k9, h9⟩) pre x suf hsplit
    (fun z hz => by
      obtain ⟨hz0, nm, hl1, hn1⟩ := hpass z hz
      obtain ⟨c6, hc6, hcl6⟩ := Cond.classLink_spec O.2.1 (O.1 _ hl1) (g_e G).platform hpl
      obtain ⟨a7, b8, h1, h2, h3⟩ := (hth (g_s G) (State.WarmedH.refl _) (fun _ _ => rfl)).2.2 _ hn1
      cases Option.some.inj (h1.symm.trans c3)
      cases Option.some.inj (h2.symm.trans hc6)
      exact Or.inr ⟨hz0, _, hcl6, h3⟩) hx (Or.inr ⟨h0, c4, hcl5, hasg⟩)
  have kk2 : ∀ ls1, ls1.size = g_n G ∧ lv_wf ls1 → W (g_p G) (g_l G) (g_e G) (g_R G) (g_s G) (g_m G) (g_a G) (g_b G) (g_me G) (g_c G) T.heap locs k n (hp_Z G) (F0 (g_m G) nx ls1 []) := fun ls1 hl1 => kk σ T.heap locs ls1 a1 a2 a3 a4 a5 ⟨hl1.1, hl1.2, fun q hq => by cases hq⟩ (fun v hv => by cases hv) a8 a9
  have hW : W (g_p G) (g_l G) (g_e G) (g_R G) (g_s G) (g_m G) (g_a G) (g_b G) (g_me G) (g_c G) T.heap locs k n (hp_Z G) (F0 (g_m G) hp ls [.ref xx]) := by
    rcases hd with ⟨hd, e⟩ | ⟨j, hd, e1, e⟩
    · subst e
      exact lv_astore (x := xx) C.1 C.2.1 hd (hp_lv_real a6) hi rfl (fun ls1 hl1 => kk2 ls1 ⟨hl1.1, hl1.2.1⟩)
    · subst e
      exact lv_astore_n (x := xx) C.1 C.2.1 hd rfl (hp_lv_real a6) (by rw [e1]; exact hi) rfl (fun ls1 hl1 => kk2 ls1 ⟨hl1.1, hl1.2.1⟩)
  obtain ⟨t, b1, b2⟩ := hW (T.setVm vm') rfl X'
  rw [← hhp] at b1
  exact ⟨t, st.trans b1, b2⟩
/-- a virtual call whose throws are looked at -/
theorem hs_tryV {T : hp_T} {Y : hp_Y} {l : Launch} {w0 : Bool} {dk dn : Nat} {Q : hp_R → hp_H → Prop} {G : hp_G} (V : hp_val T Y) (C : hp_ctx T Y l w0 dk dn Q G) {i : Nat} {Y' : hp_Y} {pc : Nat} (e0 : hp_lk (t_code T) pc = some (.invokevirtual i)) (e1 : hp_lk (t_call T) i = some (2, Y')) {as rest : List Value} {a : Nat} (e2 : as.length = y_na Y') {lv : hp_L} {h : hp_H} {w : Bool} {k n ci : Nat} {fs : List Value} (ha : h[a]? = some (.inr (ci, fs))) (hcn : (classes[ci]?).map (fun c => c.1) = some (y_nm Y').cls)
    {wy : Bool} {dk' dn' : Nat} {Qy : hp_R → hp_H → Prop} (hM : hp_M l Y' (.ref a :: as) h wy dk' dn' Qy) (hfr : y_fr Y' + 1 ≤ y_fr Y) (hlo : (rest.map fun v => v.category).sum + (y_mx Y' + 11) + y_lo Y' ≤ y_lo Y) (hc1 : k + dk' ≤ dk) (hc2 : n + dn' ≤ dn)
    (hi : ∀ r h', Qy r h' → match r with
      | .inl v => hp_W G (pc + 3) lv (v.toList ++ rest) h' (w && wy) (k + dk') (n + dn')
      | .inr ci => hp_catch G pc h' (w && wy) (k + dk') (n + dn') ci lv) {st : List Value} (hst : st = as.reverse ++ .ref a :: rest) : hp_W G pc lv st h w k n := by
  subst hst
  obtain ⟨B, O, z3, hR, hl, hw, hQ, hrt, hlk, hnm, hex, hnt, hth⟩ := C
  have hv := V.2.2.1 _ (hp_lk_mem _ _ _ e1)
  obtain ⟨v1, v2, v3, v4, v5, v6, v7⟩ := hv
  subst hl
  have hd := hq_dec V e0 (n := 2) rfl
  refine hp_call (K := hp_W G) B (fun _ _ _ _ _ _ _ q => q) O hnt hth hM hd v1 v5 (by rw [hR]; exact hfr) (by rw [hR]; exact hlo) (by rw [hR]; exact hc1) (by rw [hR]; exact hc2) (fun v hv => List.mem_append_right _ (List.mem_cons_of_mem _ hv)) (fun v hv => by rcases List.mem_cons.mp hv with e | e; (rw [e]; exact List.mem_append_right _ List.mem_cons_self); exact List.mem_append_left _ (List.mem_reverse.mpr e)) (fun σ H ls a1 a2 => ?_) hi
  rw [List.map_append, List.map_reverse]
  obtain ⟨cell, c1, c2, c3⟩ := hp_recv O a1 ha hcn
  exact hp_inv_V B O v1 v2 v3 v4 v6 v7 hd (by rw [List.length_map]; exact e2) ls c1 c2 c3
abbrev XT (x : ExceptionTableEntry) : Nat × Nat × Nat × Nat := (x.startPc, x.endPc, x.handlerPc, x.catchType)
theorem xt_1 {l : List ExceptionTableEntry} {a : Nat × Nat × Nat × Nat} (h : l.map XT = [a]) : ∃ x, l = [x] ∧ XT x = a := by
  match l, h with
  | [x], h => exact ⟨x, rfl, (List.cons.inj h).1⟩
theorem xt_2 {l : List ExceptionTableEntry} {a b : Nat × Nat × Nat × Nat} (h : l.map XT = [a, b]) : ∃ x y, l = [x, y] ∧ XT x = a ∧ XT y = b := by
  match l, h with
  | [x, y], h => exact ⟨x, y, rfl, (List.cons.inj h).1, (List.cons.inj (List.cons.inj h).2).1⟩
theorem xt_3 {l : List ExceptionTableEntry} {a b c : Nat × Nat × Nat × Nat} (h : l.map XT = [a, b, c]) : ∃ x y z, l = [x, y, z] ∧ XT x = a ∧ XT y = b ∧ XT z = c := by
  match l, h with
  | [x, y, z], h => exact ⟨x, y, z, rfl, (List.cons.inj h).1, (List.cons.inj (List.cons.inj h).2).1, (List.cons.inj (List.cons.inj (List.cons.inj h).2).2).1⟩
theorem lw_c0 : Jvm.Cond.classLink "EdgeSweepsLaw" 13 (hp_exn 0) ∈ hp_Ts := by decide +kernel
theorem lw_c1 : Jvm.Cond.classLink "EdgeSweepsLaw" 15 (hp_exn 1) ∈ hp_Ts := by decide +kernel
theorem lw_c2 : Jvm.Cond.classLink "EdgeSweepsLaw" 21 (hp_exn 2) ∈ hp_Ts := by decide +kernel
theorem lw_k0 : Jvm.Cond.castable (hp_exn 0) (hp_exn 0) ∈ hp_Ts := by decide +kernel
theorem lw_k1 : Jvm.Cond.castable (hp_exn 1) (hp_exn 1) ∈ hp_Ts := by decide +kernel
theorem lw_k2 : Jvm.Cond.castable (hp_exn 2) (hp_exn 2) ∈ hp_Ts := by decide +kernel
