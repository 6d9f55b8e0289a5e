/-! CALLS. Y: a method: its name, bytes, locals, answer's type, handlers; the frames and words below it; how many arguments. -/
abbrev hp_Y : Type := MethodName × ByteArray × Nat × Option FieldType × List (Nat × Nat × Nat × Nat) × Nat × Nat × Nat
abbrev y_nm (Y : hp_Y) : MethodName := Y.1
abbrev y_cc (Y : hp_Y) : ByteArray := Y.2.1
abbrev y_mx (Y : hp_Y) : Nat := Y.2.2.1
abbrev y_rt (Y : hp_Y) : Option FieldType := Y.2.2.2.1
abbrev y_hd (Y : hp_Y) : List (Nat × Nat × Nat × Nat) := Y.2.2.2.2.1
abbrev y_fr (Y : hp_Y) : Nat := Y.2.2.2.2.2.1
abbrev y_lo (Y : hp_Y) : Nat := Y.2.2.2.2.2.2.1
abbrev y_na (Y : hp_Y) : Nat := Y.2.2.2.2.2.2.2
def hp_cd (Y : hp_Y) : Jvm.Cond := match y_hd Y with
  | [] => .code (y_nm Y) (y_cc Y) (y_mx Y) (y_rt Y)
  | q :: hh => .codeWith (y_nm Y) (y_cc Y) (y_mx Y) (y_rt Y) (q :: hh)
theorem hp_cd_spec {Y : hp_Y} {args : Array Value} {s : State} {mk : MethodId} (hn : s.methodNamed? (y_nm Y) = some mk) (h : (hp_cd Y).before args s = true) :
    ∃ meth c, s.vm.method? mk = some meth ∧ meth.code = some c ∧ c.code = y_cc Y ∧ c.maxLocals = y_mx Y ∧ meth.sig.returnType = y_rt Y ∧ meth.locks = false ∧ c.exceptionTable.toList.map (fun h => (h.startPc, h.endPc, h.handlerPc, h.catchType)) = y_hd Y ∧ parseMethodDescriptor (y_nm Y).desc = some meth.sig := by
  unfold hp_cd at h
  split at h
  next e =>
    obtain ⟨meth, c, h1, h2, h3, h4, h5, h6, h7, h8⟩ := Cond.code_spec hn h
    have h0 : c.exceptionTable.size = 0 := by simpa [Array.isEmpty] using h7
    have h9 : c.exceptionTable.toList = [] := List.eq_nil_of_length_eq_zero (by simpa using h0)
    exact ⟨meth, c, h1, h2, h3, h4, h5, h6, by rw [h9, e]; rfl, h8⟩
  next q hh e =>
    obtain ⟨m9, meth, c, hn9, h1, h2, h3, h4, h7, h5, h6, h8⟩ := Cond.codeWith_spec h
    cases hn.symm.trans hn9
    exact ⟨meth, c, h1, h2, h3, h4, h5, h6, by rw [h7, e], h8⟩
def hp_noT (l : Launch) : Prop := ∀ e : Env, l.admits e → e.platform.stackTraces = false
/-- what a throw finds outside the places, in every later state too -/
def hp_thr (z : Nat) (U : State) : Prop := ∀ V : State, U.WarmedH V.vm → (∀ q : Nat, q < z → V.heap[q]? = U.heap[q]?) → (∀ w ∈ hp_Ts, ∀ a : Array Value, w.before a V = true) ∧ (∀ q ∈ hp_strs, ∃ sa : Nat, vk_R q.1 q.2.1 q.2.2 sa V) ∧ ∀ q ∈ hp_ncs, va_Nc q.1 q.2 V
theorem hp_thr_moved {z : Nat} {U V : State} (h : hp_thr z U) (hW : U.WarmedH V.vm) (hh : ∀ q : Nat, q < z → V.heap[q]? = U.heap[q]?) : hp_thr z V :=
  fun X hX hq => h X (State.WarmedH.trans hW hX) (fun q hz => (hq q hz).trans (hh q hz))
def hp_pre (D : va_G) (z : Nat) (σ : List Nat) (h : hp_H) (U : State) : Prop := hp_rep D z U σ h U.heap ∧ va_K D classes [] U ∧ z ≤ U.heap.size ∧ hp_thr z U
/-- THE CONTRACT of a call: with these arguments, in this heap: it ends as Q says; at most dk cells of dn slots are new; w: nothing that was there is written -/
def hp_M (l : Launch) (Y : hp_Y) (av : List Value) (h : hp_H) (w : Bool) (dk dn : Nat) (Q : hp_R → hp_H → Prop) : Prop :=
  hp_noT l → ∀ (D : va_G) (z : Nat) (σ : List Nat), MetFree l (y_nm Y) (headSpec [hp_cd Y] { frames := y_fr Y, cells := dk, slots := dn, locals := y_lo Y })
    (fun a U => a = (av.map (hp_cv σ)).toArray ∧ (∀ v ∈ av, hp_ok σ v) ∧ hp_pre D z σ h U) (fun _ _ _ _ _ => True) (fun _ s o t => hp_E D z σ w Q dk dn s o t)
theorem hp_M_weak {l : Launch} {Y : hp_Y} {av : List Value} {h : hp_H} {w : Bool} {dk dn : Nat} {Q Q' : hp_R → hp_H → Prop} (hM : hp_M l Y av h w dk dn Q) (hQ : ∀ r h', Q r h' → Q' r h') : hp_M l Y av h w dk dn Q' := by
  intro ht D z σ p e ha hc hk s m args below hf happ hP hT
  obtain ⟨n, o, h1, h2, h3, r, h', σ', b1, b2, b3, b4, b5, b6⟩ := hM ht D z σ p e ha hc hk s m args below hf happ hP hT
  exact ⟨n, o, h1, h2, h3, r, h', σ', b1, b2, b3, b4, hQ r h' b5, b6⟩
section HpC
variable {G : hp_G} {cc : ByteArray} {pc : Nat} {lv : hp_L} {st : List Value} {h : hp_H} {w : Bool} {k n : Nat} {K : hp_K}
/-- the invoking instruction itself: the callee is entered with these arguments -/
def hp_inv (G : hp_G) (pc : Nat) (ls : Array Slot) (H : Heap) (st rest : List Value) (mk : MethodId) (av : List Value) : Prop :=
  ∀ (T : State) (locs : List Loc) (k n : Nat), T.heap = H → Stand (g_p G) (g_l G) (g_e G) (g_R G) (g_s G) (g_m G) (g_a G) (g_b G) (g_me G) (g_c G) T locs k n →
    ∃ vm₁ : Vm, Stand (g_p G) (g_l G) (g_e G) (g_R G) (g_s G) (g_m G) (g_a G) (g_b G) (g_me G) (g_c G) (T.setVm vm₁) locs k n ∧
      ∀ target, (∀ acts, Steps (g_p G).tables (g_e G) (g_b G) (doInvoke (g_e G) ((T.setVm vm₁).setTop (F0 (g_m G) pc ls rest)) acts mk av.toArray).1 target) → Steps (g_p G).tables (g_e G) (g_b G) (T.setTop (F0 (g_m G) pc ls st)) target
/-- what a thrown exception comes to in this method -/
def hp_catch (G : hp_G) (pc : Nat) (h : hp_H) (w : Bool) (k n : Nat) (ci : Nat) (lv : hp_L) : Prop :=
  ∀ (T : State) (locs : List Loc) (ls : Array Slot) (σ : List Nat) (rest : List Value) (x : Addr) (cell : Cell), hp_rep (g_D G) (g_z G) (g_s G) σ h T.heap → hp_le (g_σ G) σ → hp_fr (g_z G) (g_s G).heap T.heap → (∀ q ∈ locs, g_z G ≤ q.base) → (w = true → locs = []) →
    hp_lv σ (g_n G) lv ls → k ≤ (g_R G).cells → n ≤ (g_R G).slots → T.heap[x]? = some cell → cell.vm = .none → (g_s G).vm.findClass (hp_exn ci) = some cell.cls →
    Stand (g_p G) (g_l G) (g_e G) (g_R G) (g_s G) (g_m G) (g_a G) (g_b G) (g_me G) (g_c G) T locs k n →
    ∃ t, Steps (g_p G).tables (g_e G) (g_b G) ((T.setTop (F0 (g_m G) pc ls rest)).pushFrame (.throwing x)) t ∧ hp_Z G t
/-- no handler of this method's is round it: the method ends -/
theorem hp_catch_out (hlk : (g_me G).locks = false) (hout : ∀ x ∈ (g_c G).exceptionTable.toList, covers x pc = false) {ci : Nat} (hi : hp_end G w (g_Q G (.inr ci) h)) : hp_catch G pc h w k n ci lv := by
  intro T locs ls σ rest x cell a1 a2 a3 a4 a5 a6 a8 a9 c1 c2 c3 X
  obtain ⟨hw, hq⟩ := hp_end_of hi
  obtain ⟨s1, s2, s3, s4, s5⟩ := X.leaveThrown x (g := F0 (g_m G) pc ls rest) rfl rfl rfl hout hlk
  refine ⟨_, s1, .threw x, s2, s3, .inr ci, h, σ, a2, ⟨x, cell, rfl, c1, c2, ?_⟩, hp_rep_moved s4.alike a1, a3, hq, s4, locs, State.sameButNew.mono s5 a8 a9, a4, fun e => a5 (hw e)⟩
  rw [s4.alike.findClass]
  exact c3
theorem hp_call (C : hp_B cc G) (hK : ∀ pc lv st h w k n, K pc lv st h w k n → hp_W G pc lv st h w k n) {own : String} (O : hp_O own G) (hnt : hp_noT (g_l G)) (hth : hp_thr (g_z G) (g_s G)) {Y : hp_Y} {av rest : List Value} {wy : Bool} {dk dn : Nat} {Qy : hp_R → hp_H → Prop} (hM : hp_M (g_l G) Y av h wy dk dn Qy)
    {ins : Instr} (hd : decode cc pc = .ok (ins, 3)) (hcd : hp_cd Y ∈ hp_Ts) (hini : Jvm.Cond.initialized (y_nm Y).cls ∈ hp_Ts) (hfr : y_fr Y + 1 ≤ (g_R G).frames) (hlo : (rest.map fun v => v.category).sum + (y_mx Y + 11) + y_lo Y ≤ (g_R G).locals) (hc1 : k + dk ≤ (g_R G).cells) (hc2 : n + dn ≤ (g_R G).slots)
    (hst : ∀ v ∈ rest, v ∈ st) (hav : ∀ v ∈ av, v ∈ st)
    (hinv : ∀ (σ : List Nat) (H : Heap) (ls : Array Slot), hp_rep (g_D G) (g_z G) (g_s G) σ h H → ls.size = g_n G → ∃ mk, (g_s G).methodNamed? (y_nm Y) = some mk ∧ hp_inv G pc ls H (st.map (hp_cv σ)) (rest.map (hp_cv σ)) mk (av.map (hp_cv σ)))
    (hi : ∀ r h', Qy r h' → match r with
      | .inl v => K (pc + 3) lv (v.toList ++ rest) h' (w && wy) (k + dk) (n + dn)
      | .inr ci => hp_catch G pc h' (w && wy) (k + dk) (n + dn) ci lv) : hp_W G pc lv st h w k n := by
  intro σ H locs ls a1 a2 a3 a4 a5 a6 a7 a8 a9 T hT X0
  obtain ⟨mk, hnamed, hin⟩ := hinv σ H ls a1 a6.1
  obtain ⟨vm₁, X, hstep⟩ := hin T locs k n hT X0
  obtain ⟨hts, hown, hKn, hzs⟩ := O
  have hU : (T.setVm vm₁).heap = H := hT
  have hwd : ∀ w' ∈ hp_Ts, ∀ a', w'.before a' (T.setVm vm₁) = true := (hth (T.setVm vm₁) X.warmed (fun q hq => by rw [hU]; exact a3.2 q hq)).1
  have hn2 : (T.setVm vm₁).methodNamed? (y_nm Y) = some mk := X.named hnamed
  obtain ⟨methY, cY, m1, m2, m3, m4, m5, m6, m7, m8⟩ := hp_cd_spec hn2 (hwd _ hcd #[])
  obtain ⟨kY, hkY, -⟩ := className_of_methodNamed hn2
  have hinitY : kY.init = .initialized := Cond.initialized_spec (findClass_of_methodNamed hn2) hkY (hwd _ hini #[])
  have hsize : (F0 (g_m G) pc ls (rest.map (hp_cv σ))).locals.size = (g_c G).maxLocals := a6.1.trans C.2.2.symm
  have hdc : decode (g_c G).code pc = .ok (ins, 3) := by rw [C.2.1]; exact hd
  have hcat : ((rest.map (hp_cv σ)).map fun v => v.category) = rest.map fun v => v.category := by
    rw [List.map_map]
    exact List.map_congr_left fun v _ => hp_cv_cat σ v
  have hroom := X.room_calling (g := F0 (g_m G) pc ls (rest.map (hp_cv σ))) (args' := (av.map (hp_cv σ)).toArray) (R' := { frames := y_fr Y, cells := dk, slots := dn, locals := y_lo Y }) hsize m1 m2 hfr (by show 2 * 0 + ((rest.map (hp_cv σ)).map fun v => v.category).sum + _ + _ ≤ _; rw [hcat, m4]; show _ + y_lo Y ≤ _; omega) hc1 hc2
  have happ : (headSpec [hp_cd Y] { frames := y_fr Y, cells := dk, slots := dn, locals := y_lo Y }).appliesLoose (y_nm Y) (g_e G).platform ((T.setVm vm₁).calling (F0 (g_m G) pc ls (rest.map (hp_cv σ))) mk (av.map (hp_cv σ)).toArray) = true :=
    Spec.appliesLoose_calling (g := F0 (g_m G) pc ls (rest.map (hp_cv σ))) X.here hdc hn2 hkY hinitY hroom (atoms_intro (fun w' hw' => by rw [List.mem_singleton.mp hw']; exact hwd _ hcd _))
  obtain ⟨mid, hmid⟩ := X.here.above
  have hframes : ((T.setVm vm₁).setTop (F0 (g_m G) pc ls (rest.map (hp_cv σ)))).frames = (.java (F0 (g_m G) pc ls (rest.map (hp_cv σ))) :: mid) ++ g_b G := by rw [State.frames_setTop' _ X.here.top, hmid]; rfl
  have hpre : hp_pre (g_D G) (g_z G) σ h ((T.setVm vm₁).calling (F0 (g_m G) pc ls (rest.map (hp_cv σ))) mk (av.map (hp_cv σ)).toArray) := by
    refine ⟨?_, va_K.moved X.warmed.alike hKn, ?_, hp_thr_moved hth X.warmed (fun q hq => ?_)⟩
    · show hp_rep _ _ _ σ h (T.setVm vm₁).heap
      rw [hU]
      exact hp_rep_moved X.warmed.alike a1
    · show _ ≤ (T.setVm vm₁).heap.size
      rw [hU]
      exact Nat.le_trans hzs a3.1
    · show (T.setVm vm₁).heap[q]? = _
      rw [hU]
      exact a3.2 q hq
  obtain ⟨o, s₂, hsteps, -, hend, hq⟩ := Steps.callFree (hM hnt (g_D G) (g_z G) σ) (g_p G) X.admits X.cas X.clock (acts := []) hframes happ ⟨rfl, fun v hv => a7 v (hav v hv), hpre⟩ trivial
  rw [State.frames_setTop' _ X.here.top, X.tail] at hend
  have hsteps2 : ∀ target, Steps (g_p G).tables (g_e G) (g_b G) s₂ target → Steps (g_p G).tables (g_e G) (g_b G) (T.setTop (F0 (g_m G) pc ls (st.map (hp_cv σ)))) target := fun target ht => hstep target fun acts => by
    rw [doInvoke_state]
    exact hsteps.trans ht
  obtain ⟨r, h', σ', b1, b2, b3, b4, b5, b6, L, b7, b8, b9⟩ := hq
  have hmap : (rest.map (hp_cv σ)) = rest.map (hp_cv σ') := List.map_congr_left fun v hv => (hp_cv_mono b1 (a7 v (hst v hv))).symm
  have hfr3 : hp_fr (g_z G) (g_s G).heap s₂.heap := by
    have b4' : hp_fr (g_z G) H s₂.heap := by rw [← hU]; exact b4
    exact hp_fr_tr a3 b4'
  have hlocs : ∀ q ∈ locs ++ L, g_z G ≤ q.base := fun q hq => by
    rcases List.mem_append.mp hq with e | e
    · exact a4 q e
    · exact b8 q e
  have hnil : (w && wy) = true → locs ++ L = [] := fun e => by
    rw [Bool.and_eq_true] at e
    rw [a5 e.1, b9 e.2]; rfl
  have hi' := hi r h' b5
  match r, b2, hi' with
  | .inl v, b2, hi' =>
    have hv2 : o = .returned (v.map (hp_cv σ')) ∧ ∀ x ∈ v.toList, hp_ok σ' x := by
      cases v with
      | none => exact ⟨b2, fun x hx => by cases hx⟩
      | some v => exact ⟨b2.2, fun x hx => by rw [Option.mem_toList] at hx; cases hx; exact b2.1⟩
    obtain ⟨rfl, hv3⟩ := hv2
    obtain ⟨T', X', hW', hs', ht⟩ := X.outOf (g := F0 (g_m G) pc ls (rest.map (hp_cv σ))) rfl hdc hend b6 b7
    have hh2 : s₂.heap = T'.heap := by rw [ht]; simp
    have hv4 : s₂.vm = T'.vm := by rw [ht]; simp
    have hal : (g_s G).vm.Alike s₂.vm := by rw [hv4]; exact X'.warmed.alike
    have hW2 := hK _ _ _ _ _ _ _ hi' σ' T'.heap (locs ++ L) ls (by rw [← hh2]; exact hp_rep_moved (u := s₂) hal.symm b3) (hp_le_tr a2 b1) (by rw [← hh2]; exact hfr3) hlocs hnil (hp_lv_mono b1 a6)
      (fun x hx => by
        rcases List.mem_append.mp hx with e | e
        · exact hv3 x e
        · exact hp_ok_mono b1 (a7 x (hst x e))) hc1 hc2 T' rfl X'
    obtain ⟨t, t1, t2⟩ := hW2
    refine ⟨t, hsteps2 t ?_, t2⟩
    rw [ht]
    have e1 : (v.map (hp_cv σ')).toList ++ rest.map (hp_cv σ) = (v.toList ++ rest).map (hp_cv σ') := by
      rw [List.map_append, hmap]
      cases v <;> rfl
    show Steps _ _ _ (T'.setTop (F0 (g_m G) (pc + 3) ls ((v.map (hp_cv σ')).toList ++ rest.map (hp_cv σ)))) t
    rw [e1]
    exact t1
  | .inr ci, b2, hi' =>
    obtain ⟨x, cell, rfl, c1, c2, c3⟩ := b2
    obtain ⟨T', X', hW', hs', ht⟩ := X.outOfThrown (g := F0 (g_m G) pc ls (rest.map (hp_cv σ))) rfl hend b6 b7
    have hh2 : s₂.heap = T'.heap := by rw [ht]; exact Stand.throwing_heap _ _ _
    have hv4 : s₂.vm = T'.vm := by rw [ht]; exact Stand.throwing_vm _ _ _
    have hal : (g_s G).vm.Alike s₂.vm := by rw [hv4]; exact X'.warmed.alike
    obtain ⟨t, t1, t2⟩ := hi' T' (locs ++ L) ls σ' (rest.map (hp_cv σ)) x cell (by rw [← hh2]; exact hp_rep_moved (u := s₂) hal.symm b3) (hp_le_tr a2 b1) (by rw [← hh2]; exact hfr3) hlocs hnil (hp_lv_mono b1 a6) hc1 hc2 (by rw [← hh2]; exact c1) c2 (by rw [← hal.findClass]; exact c3) X'
    refine ⟨t, hsteps2 t ?_, t2⟩
    rw [ht]
    exact t1
end HpC
section HpV
variable {G : hp_G} {cc : ByteArray} {pc : Nat}
theorem hp_cd_named {Y : hp_Y} {args : Array Value} {s : State} (h : (hp_cd Y).before args s = true) : ∃ mk, s.methodNamed? (y_nm Y) = some mk := by
  unfold hp_cd at h
  split at h
  next e => exact Cond.code_named h
  next q hh e =>
    obtain ⟨m9, meth, c, hn9, -⟩ := Cond.codeWith_spec h
    exact ⟨m9, hn9⟩
def hp_notMH (Y : hp_Y) : Prop := (y_nm Y).cls ≠ "java/lang/invoke/MethodHandle" ∧ (y_nm Y).cls ≠ "java/lang/invoke/VarHandle"
def hp_np (Y : hp_Y) : Prop := (parseMethodDescriptor (y_nm Y).desc).map (fun d => d.parameters.length) = some (y_na Y)
theorem hp_np_of {Y : hp_Y} (h : hp_np Y) {sig : MethodDescriptor} (hs : parseMethodDescriptor (y_nm Y).desc = some sig) : y_na Y = sig.parameters.length := by
  unfold hp_np at h
  rw [hs] at h
  exact (Option.some.inj h).symm
theorem hp_inv_S (C : hp_B cc G) {own : String} (O : hp_O own G) {Y : hp_Y} {idx : Nat} (hcd : hp_cd Y ∈ hp_Ts) (hlink : Jvm.Cond.methodLink own idx (y_nm Y) ∈ hp_Ts) (hstat : Jvm.Cond.static (y_nm Y) ∈ hp_Ts) (hini : Jvm.Cond.initialized (y_nm Y).cls ∈ hp_Ts) (hy : hp_notMH Y) (hnp : hp_np Y)
    (hd : decode cc pc = .ok (.invokestatic idx, 3)) {av rest : List Value} (hn : av.length = y_na Y) (ls : Array Slot) (H : Heap) : ∃ mk, (g_s G).methodNamed? (y_nm Y) = some mk ∧ hp_inv G pc ls H (av.reverse ++ rest) rest mk av := by
  obtain ⟨hts, hown, -, -⟩ := O
  obtain ⟨mk, hnamed⟩ := hp_cd_named (hts _ hcd)
  obtain ⟨methM, cM, m1, m2, m3, m4, m5, m6, m7, m8⟩ := hp_cd_spec hnamed (hts _ hcd)
  have hstatic : methM.isStatic = true := Cond.static_spec hnamed m1 (hts _ hstat)
  obtain ⟨kP, hkP, -⟩ := className_of_methodNamed hnamed
  have hinitP : kP.init = .initialized := Cond.initialized_spec (findClass_of_methodNamed hnamed) hkP (hts _ hini)
  refine ⟨mk, hnamed, fun T locs k n hT X => ?_⟩
  obtain ⟨vm₁, X₁, hstep₁⟩ := X.invokestatic C.1 hown (hts _ hlink) hnamed m1 hstatic hkP hinitP hy (g := F0 (g_m G) pc ls (av.reverse ++ rest)) rfl (argsL := av) (rest := rest) (hn.trans (hp_np_of hnp m8)) rfl (by rw [C.2.1]; exact hd)
  exact ⟨vm₁, X₁, fun target ht => hstep₁ target ht⟩
theorem hp_inv_SN (C : hp_B cc G) {own host : String} (O : hp_O own G) {Y : hp_Y} {idx : Nat} (hcd : hp_cd Y ∈ hp_Ts) (hlink : Jvm.Cond.methodLinkNest own idx (y_nm Y) host ∈ hp_Ts) (hstat : Jvm.Cond.static (y_nm Y) ∈ hp_Ts) (hini : Jvm.Cond.initialized (y_nm Y).cls ∈ hp_Ts) (hy : hp_notMH Y) (hnp : hp_np Y)
    (hd : decode cc pc = .ok (.invokestatic idx, 3)) {av rest : List Value} (hn : av.length = y_na Y) (ls : Array Slot) (H : Heap) : ∃ mk, (g_s G).methodNamed? (y_nm Y) = some mk ∧ hp_inv G pc ls H (av.reverse ++ rest) rest mk av := by
  obtain ⟨hts, hown, -, -⟩ := O
  obtain ⟨mk, hnamed⟩ := hp_cd_named (hts _ hcd)
  obtain ⟨methM, cM, m1, m2, m3, m4, m5, m6, m7, m8⟩ := hp_cd_spec hnamed (hts _ hcd)
  have hstatic : methM.isStatic = true := Cond.static_spec hnamed m1 (hts _ hstat)
  obtain ⟨kP, hkP, -⟩ := className_of_methodNamed hnamed
  have hinitP : kP.init = .initialized := Cond.initialized_spec (findClass_of_methodNamed hnamed) hkP (hts _ hini)
  refine ⟨mk, hnamed, fun T locs k n hT X => ?_⟩
  obtain ⟨vm₁, X₁, hstep₁⟩ := X.invokestaticNest C.1 hown (hts _ hlink) hnamed m1 hstatic hkP hinitP hy (g := F0 (g_m G) pc ls (av.reverse ++ rest)) rfl (argsL := av) (rest := rest) (hn.trans (hp_np_of hnp m8)) rfl (by rw [C.2.1]; exact hd)
  exact ⟨vm₁, X₁, fun target ht => hstep₁ target ht⟩
theorem hp_inv_V (C : hp_B cc G) {own : String} (O : hp_O own G) {Y : hp_Y} {idx : Nat} (hcd : hp_cd Y ∈ hp_Ts) (hlink : Jvm.Cond.methodLink own idx (y_nm Y) ∈ hp_Ts) (hinst : Jvm.Cond.instanceMethod (y_nm Y) ∈ hp_Ts) (hsel : Jvm.Cond.selects (y_nm Y).cls (y_nm Y) (y_nm Y) ∈ hp_Ts) (hy : hp_notMH Y) (hnp : hp_np Y)
    (hd : decode cc pc = .ok (.invokevirtual idx, 3)) {av rest : List Value} (hn : av.length = y_na Y) (ls : Array Slot) {H : Heap} {b : Addr} {cellB : Cell} (hcell : H[b]? = some cellB) (hobj : cellB.vm.isStatics = false) (hcls : (g_s G).vm.findClass (y_nm Y).cls = some cellB.cls) : ∃ mk, (g_s G).methodNamed? (y_nm Y) = some mk ∧ hp_inv G pc ls H (av.reverse ++ .ref b :: rest) rest mk (.ref b :: av) := by
  obtain ⟨hts, hown, -, -⟩ := O
  obtain ⟨mk, methM, hnamed, hmethM, hstM, habM⟩ := Cond.instanceMethod_spec (hts _ hinst)
  obtain ⟨methM', cM, m1, m2, m3, m4, m5, m6, m7, m8⟩ := hp_cd_spec hnamed (hts _ hcd)
  cases hmethM.symm.trans m1
  obtain ⟨c2, r2, m9, q1, q2, q3, q4, kP, hkP, hkPi⟩ := Cond.selects_spec (hts _ hsel)
  cases hcls.symm.trans q1
  cases (State.methodFound?_of_named hnamed hy).symm.trans q2
  cases hnamed.symm.trans q3
  refine ⟨mk, hnamed, fun T locs k n hT X => ?_⟩
  have hselP : selectMethod (g_e G).platform (g_s G).vm cellB.cls mk = .method mk := by rw [Launch.admits_selectMethod X.admits]; exact q4
  obtain ⟨vm₁, X₁, hstep₁⟩ := X.invokevirtual C.1 hown (hts _ hlink) hnamed hmethM hstM hkP hkPi hy (a := b) (cell := cellB) (by rw [hT]; exact hcell)
    (fun z h => by rw [h] at hobj; cases hobj) hselP hmethM habM hkP hkPi (g := F0 (g_m G) pc ls (av.reverse ++ .ref b :: rest)) rfl (argsL := av) (rest := rest) (hn.trans (hp_np_of hnp m8)) rfl (by rw [C.2.1]; exact hd)
  exact ⟨vm₁, X₁, fun target ht => hstep₁ target ht⟩
theorem hp_inv_VN (C : hp_B cc G) {own host : String} (O : hp_O own G) {Y : hp_Y} {idx : Nat} (hcd : hp_cd Y ∈ hp_Ts) (hlink : Jvm.Cond.methodLinkNest own idx (y_nm Y) host ∈ hp_Ts) (hinst : Jvm.Cond.instanceMethod (y_nm Y) ∈ hp_Ts) (hsel : Jvm.Cond.selects (y_nm Y).cls (y_nm Y) (y_nm Y) ∈ hp_Ts) (hy : hp_notMH Y) (hnp : hp_np Y)
    (hd : decode cc pc = .ok (.invokevirtual idx, 3)) {av rest : List Value} (hn : av.length = y_na Y) (ls : Array Slot) {H : Heap} {b : Addr} {cellB : Cell} (hcell : H[b]? = some cellB) (hobj : cellB.vm.isStatics = false) (hcls : (g_s G).vm.findClass (y_nm Y).cls = some cellB.cls) : ∃ mk, (g_s G).methodNamed? (y_nm Y) = some mk ∧ hp_inv G pc ls H (av.reverse ++ .ref b :: rest) rest mk (.ref b :: av) := by
  obtain ⟨hts, hown, -, -⟩ := O
  obtain ⟨mk, methM, hnamed, hmethM, hstM, habM⟩ := Cond.instanceMethod_spec (hts _ hinst)
  obtain ⟨methM', cM, m1, m2, m3, m4, m5, m6, m7, m8⟩ := hp_cd_spec hnamed (hts _ hcd)
  cases hmethM.symm.trans m1
  obtain ⟨c2, r2, m9, q1, q2, q3, q4, kP, hkP, hkPi⟩ := Cond.selects_spec (hts _ hsel)
  cases hcls.symm.trans q1
  cases (State.methodFound?_of_named hnamed hy).symm.trans q2
  cases hnamed.symm.trans q3
  refine ⟨mk, hnamed, fun T locs k n hT X => ?_⟩
  have hselP : selectMethod (g_e G).platform (g_s G).vm cellB.cls mk = .method mk := by rw [Launch.admits_selectMethod X.admits]; exact q4
  obtain ⟨vm₁, X₁, hstep₁⟩ := X.invokevirtualNest C.1 hown (hts _ hlink) hnamed hmethM hstM hkP hkPi hy (a := b) (cell := cellB) (by rw [hT]; exact hcell)
    (fun z h => by rw [h] at hobj; cases hobj) hselP hmethM habM hkP hkPi (g := F0 (g_m G) pc ls (av.reverse ++ .ref b :: rest)) rfl (argsL := av) (rest := rest) (hn.trans (hp_np_of hnp m8)) rfl (by rw [C.2.1]; exact hd)
  exact ⟨vm₁, X₁, fun target ht => hstep₁ target ht⟩
theorem hp_inv_I (C : hp_B cc G) {own : String} (O : hp_O own G) {Y : hp_Y} {idx : Nat} (hcd : hp_cd Y ∈ hp_Ts) (hhd : y_hd Y = []) (hrt : y_rt Y = none) (hlink : Jvm.Cond.methodLink own idx (y_nm Y) ∈ hp_Ts) (hinst : Jvm.Cond.instanceMethod (y_nm Y) ∈ hp_Ts) (hnm : (y_nm Y).name = "<init>") (hy : hp_notMH Y) (hnp : hp_np Y)
    (hd : decode cc pc = .ok (.invokespecial idx, 3)) {av rest : List Value} (hn : av.length = y_na Y) (ls : Array Slot) {H : Heap} {b : Addr} : ∃ mk, (g_s G).methodNamed? (y_nm Y) = some mk ∧ hp_inv G pc ls H (av.reverse ++ .ref b :: rest) rest mk (.ref b :: av) := by
  obtain ⟨hts, hown, -, -⟩ := O
  have hcd2 : hp_cd Y = .code (y_nm Y) (y_cc Y) (y_mx Y) none := by unfold hp_cd; rw [hhd, hrt]
  rw [hcd2] at hcd
  obtain ⟨mk, hnamed⟩ := Cond.code_named (hts _ hcd)
  refine ⟨mk, hnamed, fun T locs k n hT X => ?_⟩
  have hpl : (g_e G).platform.magicAccessors = ({} : Platform).magicAccessors := by rw [X.admits.platform]
  obtain ⟨mk2, methM, cM, kP, vm₁, hnamed2, hmethM, hcodeM, -, hlocalsM, -, hkP, -, hW₁, hstep₁⟩ := Steps.initColdArgs (e := g_e G) X.here C.1 X.warmed hpl hown hnm hy (hts _ hlink) (hts _ hinst) (hts _ hcd) (f := F0 (g_m G) pc ls (av.reverse ++ .ref b :: rest)) rfl (fun sig hs => hn.trans (hp_np_of hnp hs)) (argsL := av) (rest := rest) rfl (by rw [C.2.1]; exact hd)
  cases hnamed.symm.trans hnamed2
  exact ⟨vm₁, X.noted hW₁, fun target ht => hstep₁ target ht⟩
theorem hp_inv_IN (C : hp_B cc G) {own host : String} (O : hp_O own G) {Y : hp_Y} {idx : Nat} (hcd : hp_cd Y ∈ hp_Ts) (hhd : y_hd Y = []) (hrt : y_rt Y = none) (hlink : Jvm.Cond.methodLinkNest own idx (y_nm Y) host ∈ hp_Ts) (hinst : Jvm.Cond.instanceMethod (y_nm Y) ∈ hp_Ts) (hnm : (y_nm Y).name = "<init>") (hy : hp_notMH Y) (hnp : hp_np Y)
    (hd : decode cc pc = .ok (.invokespecial idx, 3)) {av rest : List Value} (hn : av.length = y_na Y) (ls : Array Slot) {H : Heap} {b : Addr} : ∃ mk, (g_s G).methodNamed? (y_nm Y) = some mk ∧ hp_inv G pc ls H (av.reverse ++ .ref b :: rest) rest mk (.ref b :: av) := by
  obtain ⟨hts, hown, -, -⟩ := O
  have hcd2 : hp_cd Y = .code (y_nm Y) (y_cc Y) (y_mx Y) none := by unfold hp_cd; rw [hhd, hrt]
  rw [hcd2] at hcd
  obtain ⟨mk, hnamed⟩ := Cond.code_named (hts _ hcd)
  refine ⟨mk, hnamed, fun T locs k n hT X => ?_⟩
  have hpl : (g_e G).platform.magicAccessors = ({} : Platform).magicAccessors := by rw [X.admits.platform]
  obtain ⟨mk2, methM, cM, kP, vm₁, hnamed2, hmethM, hcodeM, -, hlocalsM, -, hkP, -, hW₁, hstep₁⟩ := Steps.initColdArgsNest (e := g_e G) X.here C.1 X.warmed hpl hown hnm hy (hts _ hlink) (hts _ hinst) (hts _ hcd) (f := F0 (g_m G) pc ls (av.reverse ++ .ref b :: rest)) rfl (fun sig hs => hn.trans (hp_np_of hnp hs)) (argsL := av) (rest := rest) rfl (by rw [C.2.1]; exact hd)
  cases hnamed.symm.trans hnamed2
  exact ⟨vm₁, X.noted hW₁, fun target ht => hstep₁ target ht⟩
end HpV
