/-! the end: the claim out of the law's body -/
def lw_spc (w : Cond) : Bool := match w with
  | .arrayClass _ => true
  | .arrayOver _ => true
  | .stringRef .. => true
  | .laysStatic .. => true
  | _ => false
/-- a word that holds in every warmer state whose old heap is the same -/
def lw_good (w : Cond) : Bool := (w.onTables && w.keepsFace) || (w.onTables && w.keepsH) || lw_spc w
theorem lw_stat {U V : State} {a a' : Array Value} (hv : V.vm = U.vm) (hh : ∀ q : Nat, q < U.heap.size → V.heap[q]? = U.heap[q]?) {o n d : String} (hl : (Cond.laysStatic o n d).before a U = true) : (Cond.laysStatic o n d).before a' V = true ∧ ((Cond.isRef (.static o n d)).before a U = true → (Cond.isRef (.static o n d)).before a' V = true) := by
  obtain ⟨c, k, i, f, b, cell, e1, e2, e3, e4, e5, e6, e7, e8, e9⟩ := Cond.laysStatic_spec hl
  have hb : V.heap[b]? = some cell := (hh b (Array.getElem?_eq_some_iff.mp e5).1).trans e5
  have f1 : V.vm.findClass o = some c := by rw [hv]; exact e1
  have f2 : V.fieldFound? o n d = some (c, k, i, f) := by
    have e : V.fieldFound? o n d = U.fieldFound? o n d := by simp only [State.fieldFound?, hv]
    exact e.trans e2
  have hs : cell.slots[f.slot]? = some cell.slots[f.slot] := Array.getElem?_eq_getElem e8
  refine ⟨by simp [Cond.before, Cond.holds, Cond.value, f1, f2, e3, e4, hb, e6, e7, e8, e9], fun h2 => ?_⟩
  have g1 : (Term.static o n d).eval a U none [] U = some cell.slots[f.slot] := by simp [Term.eval, State.fieldNamed?, e2, e3, e4, e5, e6, hs]
  have g2 : (Term.static o n d).eval a' V none [] V = some cell.slots[f.slot] := by simp [Term.eval, State.fieldNamed?, f2, e3, e4, hb, e6, hs]
  simp only [Cond.before, Cond.holds, Cond.value, g1] at h2
  simp only [Cond.before, Cond.holds, Cond.value, g2]
  exact h2
theorem lw_word {s V : State} {a a' : Array Value} (hW : s.WarmedH V.vm) (hh : ∀ q : Nat, q < s.heap.size → V.heap[q]? = s.heap[q]?) {w : Cond} (hg : lw_good w = true) (h : w.before a s = true) : w.before a' V = true := by
  unfold lw_good at hg
  simp only [Bool.or_eq_true, Bool.and_eq_true] at hg
  rcases hg with (⟨g1, g2⟩ | ⟨g1, g2⟩) | g
  · have h1 : w.before a (s.setVm V.vm) = true := Cond.before_shiftedFace (State.Shifted.of_warmed hW) w g2 h
    exact va_tabs g1 (u := s.setVm V.vm) rfl h1
  · have h1 := Cond.onTables_warmH (args' := a') (T := V) hW g1 g2 h
    rwa [State.setVm_self] at h1
  · cases w with
    | arrayClass ty => exact word_at hW (Or.inr ⟨ty, rfl⟩) h
    | arrayOver ty =>
      have h1 : (Cond.arrayOver ty).before a (s.setVm V.vm) = true := by rw [Cond.arrayOver_setVmC hW.alike]; exact h
      exact h1
    | stringRef c i tx =>
      have h1 : (Cond.stringRef c i tx).before a (s.setVm V.vm) = true := Cond.stringRef_warmed hW h
      exact h1
    | laysStatic o n d =>
      have h1 : (Cond.laysStatic o n d).before a (s.setVm V.vm) = true := Cond.before_shiftedFace (State.Shifted.of_warmed hW) _ rfl h
      exact (lw_stat (U := s.setVm V.vm) (V := V) rfl hh h1).1
    | _ => exact absurd (show false = true from g) (by decide)
theorem lw_sref {s V : State} {a a' : Array Value} (hW : s.WarmedH V.vm) (hh : ∀ q : Nat, q < s.heap.size → V.heap[q]? = s.heap[q]?) {o n d : String} (hl : (Cond.laysStatic o n d).before a s = true) (h : (Cond.isRef (.static o n d)).before a s = true) : (Cond.isRef (.static o n d)).before a' V = true := by
  have h1 : (Cond.laysStatic o n d).before a (s.setVm V.vm) = true := Cond.before_shiftedFace (State.Shifted.of_warmed hW) _ rfl hl
  have h2 : (Cond.isRef (.static o n d)).before a (s.setVm V.vm) = true := Cond.before_shiftedFace (State.Shifted.of_warmed hW) _ rfl h
  exact (lw_stat (U := s.setVm V.vm) (V := V) rfl hh h1).2 h2
theorem vk_ex {own tx : String} {k : Nat} {V : State} (h : (Cond.stringRef own k tx).before #[] V = true) : ∃ sa : Nat, vk_R own k tx sa V := by
  have hcur : ∃ cur, V.vm.findClass own = some cur := by
    have h1 := h
    simp only [Cond.before, Cond.holds, Cond.value] at h1
    cases hc : V.vm.findClass own with
    | none => simp [hc] at h1
    | some cur => exact ⟨cur, rfl⟩
  obtain ⟨cur, hcur⟩ := hcur
  obtain ⟨k1, cf, i, a, h1, h2, h3, h4, h5, hev⟩ := Cond.stringRef_spec hcur h
  exact ⟨a, vk_R.of h hev⟩
theorem lw_g1 : (k2_sels lw_privs).all lw_good = true := by decide +kernel
theorem lw_g2 : tables_1_1.all lw_good = true := by decide +kernel
theorem lw_g3 : tables_1_2.all lw_good = true := by decide +kernel
theorem lw_g4 : tables_1_3.all lw_good = true := by decide +kernel
theorem lw_g5 : tables_1_4.all lw_good = true := by decide +kernel
theorem lw_goods : ∀ w ∈ lw_tbl, lw_good w = true := by
  intro w hw
  rcases List.mem_append.mp hw with e | e
  · exact List.all_eq_true.mp lw_g1 w e
  · rcases List.mem_append.mp e with e | e
    · exact List.all_eq_true.mp lw_g2 w e
    · rcases List.mem_append.mp e with e | e
      · exact List.all_eq_true.mp lw_g3 w e
      · rcases List.mem_append.mp e with e | e
        · exact List.all_eq_true.mp lw_g4 w e
        · exact List.all_eq_true.mp lw_g5 w e
theorem lw_strs : ∀ q ∈ hp_strs, Cond.stringRef q.1 q.2.1 q.2.2 ∈ lw_tbl := by decide +kernel
theorem lw_ncs : ∀ q ∈ hp_ncs, Cond.not (.castable q.1 q.2) ∈ flatC (Jvm.Cond.and given_1 narrow_1) := by decide +kernel
theorem lw_l1 : Cond.laysStatic "java/lang/Throwable" "UNASSIGNED_STACK" "[Ljava/lang/StackTraceElement;" ∈ lw_tbl := by decide +kernel
theorem lw_l2 : Cond.laysStatic "java/lang/Throwable" "SUPPRESSED_SENTINEL" "Ljava/util/List;" ∈ lw_tbl := by decide +kernel
theorem lw_x1 : Cond.isRef (.static "java/lang/Throwable" "UNASSIGNED_STACK" "[Ljava/lang/StackTraceElement;") ∈ flatC (Jvm.Cond.and given_1 narrow_1) := by decide +kernel
theorem lw_x2 : Cond.isRef (.static "java/lang/Throwable" "SUPPRESSED_SENTINEL" "Ljava/util/List;") ∈ flatC (Jvm.Cond.and given_1 narrow_1) := by decide +kernel
theorem lw_thr {s : State} {A : Array Value} (hts : ∀ w ∈ lw_tbl, w.before A s = true) (hgv : (Jvm.Cond.and given_1 narrow_1).before A s = true) : hp_thr s.heap.size s := by
  have hs := flat_of_before _ hgv
  intro V hW hh
  have hw : ∀ w ∈ lw_tbl, ∀ a, w.before a V = true := fun w hw a => lw_word hW hh (lw_goods w hw) (hts w hw)
  refine ⟨fun w hw2 a => ?_, fun q hq => vk_ex (hw _ (lw_strs q hq) #[]), fun q hq => (va_Nc.of (hs _ (lw_ncs q hq))).moved hW.alike⟩
  rcases List.mem_append.mp hw2 with e | e
  · exact hw w e a
  · rcases List.mem_cons.mp e with e | e
    · rw [e]
      exact lw_sref hW hh (hts _ lw_l1) (hs _ lw_x1)
    · rcases List.mem_cons.mp e with e | e
      · rw [e]
        exact lw_sref hW hh (hts _ lw_l2) (hs _ lw_x2)
      · cases e
theorem lw_K {s : State} {A : Array Value} (hts : ∀ w ∈ hp_Ts, w.before A s = true) : ∃ D : va_G, va_K D classes [] s := by
  have h : ∀ c : Nat, ∃ q : ClassId × (Nat → Nat), ∀ r : vw_C, classes[c]? = some r → u_Kn s r.1 r.2.1 r.2.2 q.1 q.2 := by
    intro c
    cases hc : classes[c]? with
    | none => exact ⟨(0, fun _ => 0), fun r hr => by cases hr⟩
    | some r =>
      have hk := hp_co c r hc
      obtain ⟨cC, iS, h1⟩ := u_known hts hk.1 (hts _ hk.2.2.2.1)
      exact ⟨(cC, iS), fun r' hr => by cases hr; exact h1⟩
  exact ⟨(fun c => (Classical.choose (h c)).1, fun c => (Classical.choose (h c)).2), fun c r hr => Classical.choose_spec (h c) r hr, fun k q hk => by simp at hk⟩
theorem lw_same {s t : State} {L : List Loc} {k n : Nat} (h : s.sameButNew t L k n) (hL : ∀ q ∈ L, s.heap.size ≤ q.base) : s.sameButNew t [] k n := by
  obtain ⟨h1, h2, h3, h4, h5, h6⟩ := h
  refine ⟨h1, h2, h3, h4, h5, fun a c hc => ?_⟩
  obtain ⟨c', e1, e2, e3, e4⟩ := h6 a c hc
  refine ⟨c', e1, e2, e3, fun i _ => e4 i (fun hm => ?_)⟩
  have h7 : s.heap.size ≤ a := hL _ hm
  exact absurd (Array.getElem?_eq_some_iff.mp hc).1 (Nat.not_lt.mpr h7)
def lw_P (b : Addr) (xs : List Int32) (args : Array Value) (s : State) : Prop := args = #[.ref b] ∧ s.IntsAt b xs ∧ xs.length ≤ 3073 ∧ (Jvm.Cond.and given_1 narrow_1).before args s = true
def lw_Q (_ : Array Value) (s : State) (o : Outcome) (t : State) : Prop := o = .returned (some (.int 1)) ∧ Framed s o t [] 601024 7293000
set_option maxHeartbeats 4000000 in
theorem lw_walk (l : Launch) (hnt : hp_noT l) (b : Addr) (xs : List Int32) : MetFree l x (headSpec (Jvm.Cond.code x code maxLocals ret :: tables_1) room_1) (lw_P b xs) (fun _ _ _ _ _ => True) lw_Q := by
  refine MetFree.of_bodyS (code := code) (maxLocals := maxLocals) (ret := ret) (by decide) ?_ ?_
  · intro args s m h hn
    obtain ⟨meth, c, h1, h2, h3, h4, h5, h6, -, -⟩ := Cond.code_spec hn (atoms_spec (ws := Jvm.Cond.code x code maxLocals ret :: tables_1) h _ List.mem_cons_self)
    exact ⟨meth, c, h1, h2, h3, h4, h5, h6⟩
  · intro p e s m args below meth c s₁ B hml0 hP _
    obtain ⟨rfl, hx, hbd, hgv⟩ := hP
    obtain ⟨scr, harrAt, hlist, hof, hsmall⟩ := hx
    obtain ⟨hcb, hkn, -, -⟩ := State.arrayAt?_spec harrAt
    have hown : s.vm.findClass "EdgeSweepsLaw" = some m.cls := findClass_of_methodNamed B.named
    have hts0 : ∀ c ∈ (Jvm.Cond.code x code maxLocals ret :: tables_1), c.before #[Value.ref b] s = true := atoms_spec (ws := Jvm.Cond.code x code maxLocals ret :: tables_1) B.pre
    have hts : ∀ w ∈ lw_tbl, w.before #[Value.ref b] s = true := k2_hts_sels lw_privs (fun w hw => hts0 w (List.mem_cons_of_mem _ hw)) lw_privs_ok
    have hml : c.maxLocals = 8 := B.maxLocals_eq (hts0 _ List.mem_cons_self)
    have X₀ : Stand p l e room_1 s m #[Value.ref b] below meth c s₁ [] 0 0 := Stand.of_body B
    have hh0 : s₁.heap = s.heap := by rw [B.state]; rfl
    have hsz : scr.slots.size = xs.length := by rw [← Array.length_toList, hlist, List.length_map]
    have hval : ∀ j : Nat, j < xs.length → scr.slots[j]? = some (.int (xs.getD j 0)) := fun j hj => by
      rw [← Array.getElem?_toList, hlist]
      simp [hj]
    have h9 : c.exceptionTable.toList = [] := by
      obtain ⟨meth2, c2, h1, h2, h3, h4, h5, h6, h7, h8⟩ := Cond.code_spec B.named (hts0 _ List.mem_cons_self)
      cases B.method.symm.trans h1
      cases (Stand.of_body B).code.symm.trans h2
      have h0 : c.exceptionTable.size = 0 := by simpa [Array.isEmpty] using h7
      exact List.eq_nil_of_length_eq_zero (by simpa using h0)
    have hth : hp_thr s.heap.size s := lw_thr hts hgv
    have htsA : ∀ w ∈ hp_Ts, w.before #[Value.ref b] s = true := fun w hw => (hth s (State.WarmedH.refl s) (fun _ _ => rfl)).1 w hw _
    obtain ⟨D, hK⟩ := lw_K htsA
    have hrep : hp_rep D s.heap.size s [b] [.inl (.float, xs.length, .inl fun j => xs.getD j 0)] s.heap := by
      refine ⟨rfl, fun k c2 hk => ?_, fun i j hi hj _ => ?_, fun k c2 hk hw => ?_, fun a cell ha hc => ?_⟩
      · cases k with
        | zero =>
          cases hk
          exact ⟨scr, hcb, hof, hkn, hsz, fun j hj => ⟨hval j hj, trivial⟩⟩
        | succ k => simp at hk
      · have hi' : i < 1 := hi
        have hj' : j < 1 := hj
        omega
      · cases k with
        | zero =>
          cases hk
          cases hw
        | succ k => simp at hk
      · have := (Array.getElem?_eq_some_iff.mp hc).1
        omega
    have hW := lw_body l xs.length (fun j => xs.getD j 0) hbd (Q := fun r _ => r = .inl (some (.int 1))) (G := (p, l, e, room_1, s, m, #[Value.ref b], below, meth, c, D, s.heap.size, [b], 8, false, fun r _ => r = .inl (some (.int 1))))
      ⟨⟨B.exec, B.bytes, hml⟩, ⟨htsA, hown, hK, Nat.le_refl _⟩, rfl, rfl, rfl, rfl, rfl, B.returns, B.notSynchronized, (name_of_methodNamed B.named B.method).1, by show c.exceptionTable.toList.map _ = []; rw [h9]; rfl, hnt, hth⟩ (fun _ => rfl)
    have hl := lv_entry [Value.ref b] (n := 8) (Nat.le_of_ble_eq_true rfl)
    have hlv : hp_lv [b] 8 [(0, .ref 0)] ((lg_sl [Value.ref b] ++ List.replicate (8 - (lg_sl [Value.ref b]).length) Slot.unset).toArray) := by
      refine ⟨hl.1, hl.2.1, fun q hq => ?_⟩
      rcases List.mem_cons.mp hq with e | e
      · rw [e]
        exact ⟨Nat.zero_lt_one, hl.2.2 (0, .ref b) (show (0, Value.ref b) ∈ lv_args 0 [Value.ref b] from List.mem_cons_self)⟩
      · cases e
    have hW2 := hW [b] s.heap [] _ hrep hp_le_rf hp_fr_rf (fun q hq => by cases hq) (fun _ => rfl) hlv (fun v hv => by cases hv) (Nat.zero_le _) (Nat.zero_le _)
    obtain ⟨t, t1, o, t2, t3, r, h', σ', b1, b2, b3, b4, b5, b6, L, b7, b8, b9⟩ := hW2 s₁ hh0 X₀
    have b5' : r = .inl (some (.int 1)) := b5
    subst b5'
    have b2' : hp_ok σ' (.int 1) ∧ o = .returned (some (.int 1)) := b2
    have a1 : Steps p.tables e below (s₁.setTop (entryFrame m ([Value.ref b] : List Value).toArray 8)) t := by
      rw [lg_entry_eq]
      exact t1
    exact ⟨t, o, a1, t2, t3, b2'.2, ⟨_, b2'.2⟩, b6, lw_same b7 b8⟩
theorem lw_pre_spec {args : Array Value} {s : State} (h : (Jvm.Cond.and given_1 narrow_1).before args s = true) (hr : rest_1_c.before args s = true) : ∃ (b : Addr) (xs : List Int32), lw_P b xs args s := by
  have hs := flat_of_before _ h
  have hq := flat_of_before _ hr
  have hc : (Cond.count 1).before args s = true := hs _ (by decide +kernel)
  have harr : (Cond.arrayOf (.arg 0) .int).before args s = true := hs _ (by decide +kernel)
  have hle : (Cond.le (.length (.arg 0)) (.int 3073)).before args s = true := hs _ (by decide +kernel)
  have hlen : (Cond.isInt (.length (.arg 0))).before args s = true := hq _ (by decide +kernel)
  have hall : (Cond.all (.arg 0) (.isInt (.elem (.arg 0) (.index 0)))).before args s = true := hq _ (by decide +kernel)
  obtain ⟨b, xs, hb, hx⟩ := State.ints_of_pre rfl harr hlen hall
  have hsm : xs.length < 2 ^ 31 := hx.choose_spec.2.2.2
  have hev : (Term.length (.arg 0)).eval args s none [] s = some (.int xs.length.toInt32) := hx.length_eval hb
  have hv := Cond.le_ints hev (show (Term.int 3073).eval args s none [] s = some (.int 3073) from rfl)
  have hd : xs.length.toInt32 ≤ 3073 := by
    simpa [Cond.before, Cond.holds, hv] using hle
  have hN : xs.length ≤ 3073 := (Int32.ofNat_le_ofNat hsm (by decide)).mp (show Int32.ofNat xs.length ≤ Int32.ofNat 3073 from hd)
  exact ⟨b, xs, Cond.one_arg hc (show args[0]? = some (.ref b) from hb), hx, hN, h⟩
theorem lw_comes (l : Launch) (hnt : hp_noT l) : Comes l x (Jvm.Cond.code x code maxLocals ret :: tables_1) room_1 (fun tb e args s => Calls_1 tb e args s ∧ rest_1 tb e args s ∧ Pre_1 tb e args s)
    (fun _ _ args s o t => lw_Q args s o t) := by
  intro p e ha hc hk s m args below hf hfit hheap happ hpre
  obtain ⟨b, xs, hP⟩ := lw_pre_spec hpre.2.2 hpre.2.1
  obtain ⟨k, o, h1, h2, h3, hQ⟩ := lw_walk l hnt b xs p e ha hc hk s m args below hf ((Spec.applies_iff_loose hf).mp happ).1 hP trivial
  exact ⟨k, o, h1, h2, h3, hQ⟩
theorem lw_frame {s t : State} {o : Outcome} {args : Array Value} (h : Framed s o t [] 601024 7293000) :
    Framed s o t (fieldLocs frame_1_writes args s ++ arrayLocs frame_1_arrays args s ++ staticLocs frame_1_statics s) 601024 7293000 := h
theorem lw_limb (L : Cond) (hL : ∀ (args : Array Value) (s t : State), L.after args s (.returned (some (.int 1))) t = true) :
    ArmFor flags0 classFile x code maxLocals ret World_1 tables_1 room_1 Calls_1 rest_1 Pre_1
      (fun tb e a s o t => postC L tb e a s o t ∧ Framed s o t (fieldLocs frame_1_writes a s ++ arrayLocs frame_1_arrays a s ++ staticLocs frame_1_statics s) 601024 7293000) := by
  intro l hfl _ _ p e ha hc hk s m args below hf hfit hheap happ hpre
  obtain ⟨k, o, h1, h2, h3, rfl, hF⟩ := lw_comes l (fun e he => Launch.traces_off hfl he) p e ha hc hk s m args below hf hfit hheap happ hpre
  exact ⟨k, _, h1, h2, h3, hL args s _, lw_frame hF⟩
theorem i_vc : Claimed_1_1 ∧ Claimed_1_2 := ⟨lw_limb limb_1_1 (fun args s t => by simp [limb_1_1, Cond.after, Cond.holds, Cond.value]), lw_limb limb_1_2 (fun args s t => Cond.after_iff.mpr (by
  first | (rw [show limb_1_2 = Cond.eq .result (.int 1) from rfl, Cond.eq_ints (x := 1) (y := 1) rfl rfl]; simp; done) | (simp [limb_1_2, Cond.value, Term.eval]; done)))⟩
