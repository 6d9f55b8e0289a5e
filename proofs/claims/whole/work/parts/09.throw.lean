/-! THROWS. 'throw new E("text")': new; dup; ldc; invokespecial; athrow. Nothing has been written or made in this method yet. -/
theorem hp_rep_grow {D : va_G} {z : Nat} {u U : State} (hvm : u.vm.Alike U.vm) {σ : List Nat} {h : hp_H} {H H1 : Heap} (r : hp_rep D z u σ h H) (ho : ∀ q, q < H.size → H1[q]? = H[q]?) (hs : ∀ (q : Nat) (cell : Cell), H.size ≤ q → H1[q]? = some cell → cell.vm.isStatics = false) : hp_rep D z U σ h H1 := by
  have hlt := fun k hk => hp_rep_lt r (k := k) hk
  obtain ⟨r1, r2, r3, r4, r5⟩ := hp_rep_moved hvm r
  refine ⟨r1, fun k c hk => ?_, r3, r4, fun q cell hq hc => ?_⟩
  · exact hp_at_to hp_le_rf (ho _ (hlt k (by rw [r1]; exact (List.getElem?_eq_some_iff.mp hk).1))) (r2 k c hk)
  · rcases Nat.lt_or_ge q H.size with hq' | hq'
    · rw [ho q hq'] at hc
      exact r5 q cell hq hc
    · exact hs q cell hq' hc
theorem hp_same_nil {s U : State} {k n : Nat} (h : s.sameButNew ({ U with vm := s.vm } : State) [] k n) : s.heap.size ≤ U.heap.size ∧ U.heap.size ≤ s.heap.size + k ∧ ∀ q : Nat, q < s.heap.size → U.heap[q]? = s.heap[q]? := by
  obtain ⟨-, h2, h3, -, -, h6⟩ := h
  refine ⟨h2, h3, fun q hq => ?_⟩
  obtain ⟨c9, e1, e2, e3, e4⟩ := h6 q _ (Array.getElem?_eq_getElem hq)
  have hs : c9.slots = (s.heap[q]).slots := Array.ext_getElem? fun i => e4 i (fun hm => by cases hm)
  have h9 : c9 = s.heap[q] := by
    rw [hs] at e2
    exact e2
  have e5 : U.heap[q]? = some c9 := e1
  rw [e5, h9, Array.getElem?_eq_getElem hq]
def hp_ups : List String := ["java/lang/RuntimeException", "java/lang/Exception"]
set_option maxHeartbeats 4000000 in
theorem hs_throw {T : hp_T} {Y : hp_Y} {l : Launch} {w0 : Bool} {dk dn : Nat} {Q : hp_R → hp_H → Prop} {G : hp_G} (C : hp_ctx T Y l w0 dk dn Q G) {ik is ic ci pc : Nat} {text : String} {lv : hp_L} {st : List Value} {h : hp_H}
    (hfit : Bundle.fit (hp_exn ci) = true) (hk : Jvm.Cond.classLink (t_own T) ik (hp_exn ci) ∈ hp_Ts) (hini : Jvm.Cond.initialized (hp_exn ci) ∈ hp_Ts) (hstr : (t_own T, is, text) ∈ hp_strs) (hat : ∀ w ∈ Bundle.ownAtoms (t_own T) ic (hp_exn ci) hp_ups, w ∈ hp_Ts)
    (d0 : decode (y_cc Y) pc = .ok (.new ik, 3)) (d3 : decode (y_cc Y) (pc + 3) = .ok (.dup, 1)) (d4 : decode (y_cc Y) (pc + 4) = .ok (.ldc is, 2)) (d6 : decode (y_cc Y) (pc + 6) = .ok (.invokespecial ic, 3)) (d9 : decode (y_cc Y) (pc + 9) = .ok (.athrow, 1))
    (hnil : y_hd Y = []) (hfr : 5 < y_fr Y) (hlo : (st.map fun v => v.category).sum + 82 ≤ y_lo Y) (hdk : 1 ≤ dk) (hdn : 6 ≤ dn) (hi : Q (.inr ci) h) : hp_W G pc lv st h true 0 0 := by
  obtain ⟨B, O, hn, hR, hl, hw, hQ, hrt, hlk, hnm, hex, hnt, hth⟩ := C
  intro σ H locs ls a1 a2 a3 a4 a5 a6 a7 a8 a9 T0 hT X
  have e0 : locs = [] := a5 rfl
  subst e0
  have hheap : T0.heap = (g_s G).heap := by rw [X.home]; rfl
  have hH : H = (g_s G).heap := by rw [← hT]; exact hheap
  obtain ⟨hts, hown, hKn, hzs⟩ := O
  obtain ⟨-, hstrs, -⟩ := hth (g_s G) (State.WarmedH.refl _) (fun _ _ => rfl)
  obtain ⟨sa, hsa1, hsa2⟩ := hstrs _ hstr
  have htr : (g_e G).platform.stackTraces = false := hnt _ (by rw [← hl]; exact X.admits)
  have hins : Jvm.Cond.instantiable (hp_exn ci) 6 ∈ hp_Ts := hat _ (by simp [Bundle.ownAtoms])
  have hcat : ((st.map (hp_cv σ)).map fun v => v.category) = st.map fun v => v.category := by
    rw [List.map_map]
    exact List.map_congr_left fun v _ => hp_cv_cat σ v
  have hnoh : (g_c G).exceptionTable.toList = [] := by
    rw [hnil] at hex
    exact List.map_eq_nil_iff.mp hex
  obtain ⟨vm₁, cX, kX, hfX, hkX, -, -, X₁, st1⟩ := X.newCold B.1 (own := t_own T) (C := hp_exn ci) (index := ik) (n := 6) hown (hts _ hk) (hts _ hins) (hts _ hini)
    (g := F0 (g_m G) pc ls (st.map (hp_cv σ))) rfl (by rw [B.2.1]; exact d0) (by rw [hR]; show 0 + 1 ≤ dk; omega) (by rw [hR]; show 0 + 6 ≤ dn; omega)
  generalize hT1 : (T0.setVm vm₁).pushCell { cls := cX, slots := kX.instanceTypes.map defaultValue, vm := .none } = T1 at X₁ st1
  have hcatr : (Value.ref T0.heap.size).category = 1 := rfl
  have hcellA : T1.heap[T0.heap.size]? = some (freshCell cX kX) := by rw [← hT1]; exact State.heap_pushCell_size _ _
  have d3' : decode (g_c G).code (pc + 3) = .ok (.dup, 1) := by rw [B.2.1]; exact d3
  have d4' : decode (g_c G).code (pc + 4) = .ok (.ldc is, 2) := by rw [B.2.1]; exact d4
  obtain ⟨U, hsteps, hrun, hend, hW, hsame, ce, hce, hO⟩ := X₁.ctorThrowS B.1 htr (own := t_own T) (cls := hp_exn ci) (names := hp_ups) (ic := ic) hown hfit (by decide) (fun w hw => hts _ (hat w hw)) (fun x hx => nomatch hx) hfX hkX hcellA (by rw [hheap]; exact Nat.le_refl _) (msg := .ref sa) rfl
    (g := { method := g_m G, pc := pc + 6, locals := ls, stack := .ref sa :: .ref T0.heap.size :: .ref T0.heap.size :: st.map (hp_cv σ), locked := none }) rfl (a6.1.trans B.2.2.symm) rfl rfl (rest := st.map (hp_cv σ)) rfl
    (by rw [B.2.1]; exact d6) (by rw [B.2.1]; exact d9) (fun x hx => by rw [hnoh] at hx; cases hx) (by rw [hR]; exact hfr) (by rw [hR]; simp only [List.map_cons, List.sum_cons, hcatr, hcat]; show 2 * 0 + _ + (13 * (2 + 1) + 42) ≤ y_lo Y; omega) hlk
  obtain ⟨f1, f2, f3⟩ := hp_same_nil hsame
  have hcl : U.vm.findClass (hp_exn ci) = some ce.cls := by
    rw [hW.alike.findClass]
    exact hO.cls
  refine ⟨U, st1 _ ?_, .threw T0.heap.size, hrun, hend, .inr ci, h, σ, a2, ⟨T0.heap.size, ce, rfl, hce, hO.vm, hcl⟩, ?_, ?_, (by rw [hQ]; exact hi), hW, [], ?_, (fun q hq => by cases hq), fun _ => rfl⟩
  · show Steps (g_p G).tables (g_e G) (g_b G) (T1.setTop { method := g_m G, pc := pc + 3, locals := ls, stack := .ref T0.heap.size :: st.map (hp_cv σ), locked := none }) _
    have hx := B.1
    jvm_step X₁.here [X₁.here.top, hx, d3', Value.category]
    exact X₁.ldcString B.1 (own := t_own T) (text := text) (index := is) (a := sa) hown hsa1 hsa2
      (g := { method := g_m G, pc := pc + 4, locals := ls, stack := .ref T0.heap.size :: .ref T0.heap.size :: st.map (hp_cv σ), locked := none }) rfl d4' _ hsteps
  · rw [hH] at a1
    refine hp_rep_grow hW.alike a1 f3 (fun q cell hq hc => ?_)
    have hql := (Array.getElem?_eq_some_iff.mp hc).1
    have e : q = T0.heap.size := by rw [hheap]; omega
    subst e
    rw [hce] at hc
    cases hc
    rw [hO.vm]; rfl
  · exact ⟨f1, fun q hq => f3 q (Nat.lt_of_lt_of_le hq hzs)⟩
  · rw [hR]
    exact State.sameButNew.mono hsame (by show 0 + 1 ≤ dk; omega) (by show 0 + 6 ≤ dn; omega)
