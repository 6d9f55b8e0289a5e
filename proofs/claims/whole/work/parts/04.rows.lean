/-! THE JUDGEMENT. G: all that stays the same while one method's body runs. -/
abbrev hp_G : Type := Program × Launch × Env × Room × State × MethodId × Array Value × List Frame × Method × Code × va_G × Nat × List Nat × Nat × Bool × (hp_R → hp_H → Prop)
abbrev g_p (G : hp_G) : Program := G.1
abbrev g_l (G : hp_G) : Launch := G.2.1
abbrev g_e (G : hp_G) : Env := G.2.2.1
abbrev g_R (G : hp_G) : Room := G.2.2.2.1
abbrev g_s (G : hp_G) : State := G.2.2.2.2.1
abbrev g_m (G : hp_G) : MethodId := G.2.2.2.2.2.1
abbrev g_a (G : hp_G) : Array Value := G.2.2.2.2.2.2.1
abbrev g_b (G : hp_G) : List Frame := G.2.2.2.2.2.2.2.1
abbrev g_me (G : hp_G) : Method := G.2.2.2.2.2.2.2.2.1
abbrev g_c (G : hp_G) : Code := G.2.2.2.2.2.2.2.2.2.1
abbrev g_D (G : hp_G) : va_G := G.2.2.2.2.2.2.2.2.2.2.1
abbrev g_z (G : hp_G) : Nat := G.2.2.2.2.2.2.2.2.2.2.2.1
abbrev g_σ (G : hp_G) : List Nat := G.2.2.2.2.2.2.2.2.2.2.2.2.1
abbrev g_n (G : hp_G) : Nat := G.2.2.2.2.2.2.2.2.2.2.2.2.2.1
abbrev g_w (G : hp_G) : Bool := G.2.2.2.2.2.2.2.2.2.2.2.2.2.2.1
abbrev g_Q (G : hp_G) : hp_R → hp_H → Prop := G.2.2.2.2.2.2.2.2.2.2.2.2.2.2.2
/-- how the outcome of the machine shows the pure one -/
def hp_out (σ : List Nat) (r : hp_R) (o : Outcome) (t : State) : Prop := match r with
  | .inl none => o = .returned none
  | .inl (some v) => hp_ok σ v ∧ o = .returned (some (hp_cv σ v))
  | .inr ci => ∃ (a : Addr) (cell : Cell), o = .threw a ∧ t.heap[a]? = some cell ∧ cell.vm = .none ∧ t.vm.findClass (hp_exn ci) = some cell.cls
/-- the end of a method, in the state t: seen from its first state s -/
def hp_E (D : va_G) (z : Nat) (σ : List Nat) (w : Bool) (Q : hp_R → hp_H → Prop) (dk dn : Nat) (s : State) (o : Outcome) (t : State) : Prop :=
  ∃ (r : hp_R) (h' : hp_H) (σ' : List Nat), hp_le σ σ' ∧ hp_out σ' r o t ∧ hp_rep D z t σ' h' t.heap ∧ hp_fr z s.heap t.heap ∧ Q r h' ∧ s.WarmedH t.vm ∧
    ∃ L : List Loc, s.sameButNew ({ t with vm := s.vm } : State) L dk dn ∧ (∀ q ∈ L, z ≤ q.base) ∧ (w = true → L = [])
def hp_Z (G : hp_G) : State → Prop := fun t => ∃ o : Outcome, t.status = .running ∧ Ended t (g_b G) o ∧ hp_E (g_D G) (g_z G) (g_σ G) (g_w G) (g_Q G) (g_R G).cells (g_R G).slots (g_s G) o t
/-- from here the method comes to its end -/
def hp_W (G : hp_G) (pc : Nat) (lv : hp_L) (st : List Value) (h : hp_H) (w : Bool) (k n : Nat) : Prop :=
  ∀ (σ : List Nat) (H : Heap) (locs : List Loc) (ls : Array Slot), hp_rep (g_D G) (g_z G) (g_s G) σ h H → hp_le (g_σ G) σ → hp_fr (g_z G) (g_s G).heap H → (∀ q ∈ locs, g_z G ≤ q.base) → (w = true → locs = []) →
    hp_lv σ (g_n G) lv ls → (∀ v ∈ st, hp_ok σ v) → k ≤ (g_R G).cells → n ≤ (g_R G).slots →
    W (g_p G) (g_l G) (g_e G) (g_R G) (g_s G) (g_m G) (g_a G) (g_b G) (g_me G) (g_c G) H locs k n (hp_Z G) (F0 (g_m G) pc ls (st.map (hp_cv σ)))
abbrev hp_K : Type := Nat → hp_L → List Value → hp_H → Bool → Nat → Nat → Prop
/-- fewer locals are known -/
theorem hp_W_pick {G : hp_G} {pc : Nat} {lv : hp_L} {st : List Value} {h : hp_H} {w : Bool} {k n : Nat} (ks : List Nat) (hW : hp_W G pc (hp_pick ks lv) st h w k n) : hp_W G pc lv st h w k n :=
  fun σ H locs ls h1 h2 h3 h4 h5 h6 h7 h8 h9 => hW σ H locs ls h1 h2 h3 h4 h5 (hp_lv_sub h6 (hp_pick_mem lv ks)) h7 h8 h9
theorem hp_W_dirty {G : hp_G} {pc : Nat} {lv : hp_L} {st : List Value} {h : hp_H} {w : Bool} {k n : Nat} (hW : hp_W G pc lv st h false k n) : hp_W G pc lv st h w k n :=
  fun σ H locs ls h1 h2 h3 h4 h5 h6 h7 h8 h9 => hW σ H locs ls h1 h2 h3 h4 (fun q => by cases q) h6 h7 h8 h9
theorem hp_W_widen {G : hp_G} {pc : Nat} {lv : hp_L} {st : List Value} {h : hp_H} {w : Bool} {k n : Nat} (k' n' : Nat) (hk : k ≤ k') (hn : n ≤ n') (hk2 : k' ≤ (g_R G).cells) (hn2 : n' ≤ (g_R G).slots) (hW : hp_W G pc lv st h w k' n') : hp_W G pc lv st h w k n :=
  fun σ H locs ls h1 h2 h3 h4 h5 h6 h7 _ _ => W.widen hk hn (hW σ H locs ls h1 h2 h3 h4 h5 h6 h7 hk2 hn2)
/-- the machine's part of what stays the same: code and tables -/
def hp_B (cc : ByteArray) (G : hp_G) : Prop := (g_p G).tables.exec = Jvm.exec ∧ (g_c G).code = cc ∧ (g_c G).maxLocals = g_n G
/-! patterns of the operand stack -/
def st_i (st : List Value) (f : Int32 → List Value → Prop) : Prop := match st with
  | .int x :: r => f x r
  | _ => False
def st_l (st : List Value) (f : Int64 → List Value → Prop) : Prop := match st with
  | .long x :: r => f x r
  | _ => False
def st_a (st : List Value) (f : Nat → List Value → Prop) : Prop := match st with
  | .ref x :: r => f x r
  | _ => False
def st_v (st : List Value) (f : Value → List Value → Prop) : Prop := match st with
  | v :: r => f v r
  | _ => False
theorem st_i_of {st : List Value} {f : Int32 → List Value → Prop} (h : st_i st f) : ∃ x r, st = .int x :: r ∧ f x r := by
  match st, h with
  | .int x :: r, h => exact ⟨x, r, rfl, h⟩
theorem st_l_of {st : List Value} {f : Int64 → List Value → Prop} (h : st_l st f) : ∃ x r, st = .long x :: r ∧ f x r := by
  match st, h with
  | .long x :: r, h => exact ⟨x, r, rfl, h⟩
theorem st_a_of {st : List Value} {f : Nat → List Value → Prop} (h : st_a st f) : ∃ x r, st = .ref x :: r ∧ f x r := by
  match st, h with
  | .ref x :: r, h => exact ⟨x, r, rfl, h⟩
theorem st_v_of {st : List Value} {f : Value → List Value → Prop} (h : st_v st f) : ∃ x r, st = x :: r ∧ f x r := by
  match st, h with
  | x :: r, h => exact ⟨x, r, rfl, h⟩
/-- a small constant, as Lean writes it -/
def hp_c (i : Int) : Int32 := match i with
  | .ofNat n => Int32.ofNat n
  | .negSucc n => -(Int32.ofNat (n + 1))
def hp_off (pc : Nat) (off : Int) : Nat := ((pc : Int) + off).toNat
/-- a jump: the place that it goes to -/
def hp_go (pc : Nat) (off : Int) (f : Nat → Prop) : Prop := cond (decide (0 ≤ (pc : Int) + off)) (f (hp_off pc off)) False
theorem hp_go_of {pc : Nat} {off : Int} {f : Nat → Prop} (h : hp_go pc off f) : (pc : Int) + off = ((hp_off pc off : Nat) : Int) ∧ f (hp_off pc off) := by
  unfold hp_go at h
  cases hd : decide (0 ≤ (pc : Int) + off) with
  | true =>
    rw [hd] at h
    exact ⟨(Int.toNat_of_nonneg (of_decide_eq_true hd)).symm, h⟩
  | false =>
    rw [hd] at h
    exact h.elim
def hp_if {a b : Int32} (_ : a = b → Prop) : Prop := True
section HpI
variable {G : hp_G} {cc : ByteArray} {pc : Nat} {lv : hp_L} {st : List Value} {h : hp_H} {w : Bool} {k n : Nat} {K : hp_K}

theorem hs_iconst (C : hp_B cc G) (hK : ∀ pc lv st h w k n, K pc lv st h w k n → hp_W G pc lv st h w k n) {i : Int} (hd : decode cc pc = .ok (.iconst i, 1)) (hi : cond (decide (Int32.ofInt i = hp_c i)) (K (pc + 1) lv (.int (hp_c i) :: st) h w k n) False) : hp_W G pc lv st h w k n := by
  cases he : decide (Int32.ofInt i = hp_c i) with
  | false => rw [he] at hi; exact hi.elim
  | true =>
    rw [he] at hi
    intro σ H locs ls a1 a2 a3 a4 a5 a6 a7 a8 a9
    exact lv_iconst C.1 C.2.1 hd (of_decide_eq_true he) (hK _ _ _ _ _ _ _ hi σ H locs ls a1 a2 a3 a4 a5 a6 (fun v hv => by rcases List.mem_cons.mp hv with e | e; (rw [e]; trivial); exact a7 v e) a8 a9)
theorem hs_bipush (C : hp_B cc G) (hK : ∀ pc lv st h w k n, K pc lv st h w k n → hp_W G pc lv st h w k n) {i : Int} (hd : decode cc pc = .ok (.bipush i, 2)) (hi : cond (decide ((Int8.ofInt i).toInt32 = hp_c i)) (K (pc + 2) lv (.int (hp_c i) :: st) h w k n) False) : hp_W G pc lv st h w k n := by
  cases he : decide ((Int8.ofInt i).toInt32 = hp_c i) with
  | false => rw [he] at hi; exact hi.elim
  | true =>
    rw [he] at hi
    intro σ H locs ls a1 a2 a3 a4 a5 a6 a7 a8 a9
    exact lv_bipush C.1 C.2.1 hd (of_decide_eq_true he) (hK _ _ _ _ _ _ _ hi σ H locs ls a1 a2 a3 a4 a5 a6 (fun v hv => by rcases List.mem_cons.mp hv with e | e; (rw [e]; trivial); exact a7 v e) a8 a9)
theorem hs_sipush (C : hp_B cc G) (hK : ∀ pc lv st h w k n, K pc lv st h w k n → hp_W G pc lv st h w k n) {i : Int} (hd : decode cc pc = .ok (.sipush i, 3)) (hi : cond (decide ((Int16.ofInt i).toInt32 = hp_c i)) (K (pc + 3) lv (.int (hp_c i) :: st) h w k n) False) : hp_W G pc lv st h w k n := by
  cases he : decide ((Int16.ofInt i).toInt32 = hp_c i) with
  | false => rw [he] at hi; exact hi.elim
  | true =>
    rw [he] at hi
    intro σ H locs ls a1 a2 a3 a4 a5 a6 a7 a8 a9
    exact lv_sipush C.1 C.2.1 hd (of_decide_eq_true he) (hK _ _ _ _ _ _ _ hi σ H locs ls a1 a2 a3 a4 a5 a6 (fun v hv => by rcases List.mem_cons.mp hv with e | e; (rw [e]; trivial); exact a7 v e) a8 a9)
theorem hs_lconst (C : hp_B cc G) (hK : ∀ pc lv st h w k n, K pc lv st h w k n → hp_W G pc lv st h w k n) {i : Fin 2} (hd : decode cc pc = .ok (.lconst i, 1)) (hi : K (pc + 1) lv (.long (Int64.ofNat i.val) :: st) h w k n) : hp_W G pc lv st h w k n := by
  intro σ H locs ls a1 a2 a3 a4 a5 a6 a7 a8 a9
  exact lv_lconst C.1 C.2.1 hd rfl (hK _ _ _ _ _ _ _ hi σ H locs ls a1 a2 a3 a4 a5 a6 (fun v hv => by rcases List.mem_cons.mp hv with e | e; (rw [e]; trivial); exact a7 v e) a8 a9)
theorem hs_aconst_null (C : hp_B cc G) (hK : ∀ pc lv st h w k n, K pc lv st h w k n → hp_W G pc lv st h w k n)  (hd : decode cc pc = .ok (.aconst_null, 1)) (hi : K (pc + 1) lv (.null :: st) h w k n) : hp_W G pc lv st h w k n := by
  intro σ H locs ls a1 a2 a3 a4 a5 a6 a7 a8 a9
  exact lv_null C.1 C.2.1 hd (hK _ _ _ _ _ _ _ hi σ H locs ls a1 a2 a3 a4 a5 a6 (fun v hv => by rcases List.mem_cons.mp hv with e | e; (rw [e]; trivial); exact a7 v e) a8 a9)
def hl_iload (lv : hp_L) (i : Nat) (f : Value → Prop) : Prop := match hp_get lv i with
  | some (.int x) => f (.int x)
  | _ => False
theorem hs_iload (C : hp_B cc G) (hK : ∀ pc lv st h w k n, K pc lv st h w k n → hp_W G pc lv st h w k n) {i : Nat} (hd : decode cc pc = .ok (.iload i, 2)) (hi : hl_iload lv i fun v => K (pc + 2) lv (v :: st) h w k n) : hp_W G pc lv st h w k n := by
  unfold hl_iload at hi
  split at hi
  next x hg =>
    intro σ H locs ls a1 a2 a3 a4 a5 a6 a7 a8 a9
    exact lv_iload C.1 C.2.1 hd (hp_lv_get a6 hg).2 (hK _ _ _ _ _ _ _ hi σ H locs ls a1 a2 a3 a4 a5 a6 (fun v hv => by rcases List.mem_cons.mp hv with e | e; (rw [e]; exact (hp_lv_get a6 hg).1); exact a7 v e) a8 a9)
  next => exact hi.elim
def hl_iload_n (lv : hp_L) (i : Nat) (f : Value → Prop) : Prop := match hp_get lv i with
  | some (.int x) => f (.int x)
  | _ => False
theorem hs_iload_n (C : hp_B cc G) (hK : ∀ pc lv st h w k n, K pc lv st h w k n → hp_W G pc lv st h w k n) {i : Fin 4} (hd : decode cc pc = .ok (.iload_n i, 1)) (hi : hl_iload_n lv i.val fun v => K (pc + 1) lv (v :: st) h w k n) : hp_W G pc lv st h w k n := by
  unfold hl_iload_n at hi
  split at hi
  next x hg =>
    intro σ H locs ls a1 a2 a3 a4 a5 a6 a7 a8 a9
    exact lv_iload_n C.1 C.2.1 hd rfl (hp_lv_get a6 hg).2 (hK _ _ _ _ _ _ _ hi σ H locs ls a1 a2 a3 a4 a5 a6 (fun v hv => by rcases List.mem_cons.mp hv with e | e; (rw [e]; exact (hp_lv_get a6 hg).1); exact a7 v e) a8 a9)
  next => exact hi.elim
def hl_lload (lv : hp_L) (i : Nat) (f : Value → Prop) : Prop := match hp_get lv i with
  | some (.long x) => f (.long x)
  | _ => False
theorem hs_lload (C : hp_B cc G) (hK : ∀ pc lv st h w k n, K pc lv st h w k n → hp_W G pc lv st h w k n) {i : Nat} (hd : decode cc pc = .ok (.lload i, 2)) (hi : hl_lload lv i fun v => K (pc + 2) lv (v :: st) h w k n) : hp_W G pc lv st h w k n := by
  unfold hl_lload at hi
  split at hi
  next x hg =>
    intro σ H locs ls a1 a2 a3 a4 a5 a6 a7 a8 a9
    exact lv_lload C.1 C.2.1 hd (hp_lv_get a6 hg).2 (hK _ _ _ _ _ _ _ hi σ H locs ls a1 a2 a3 a4 a5 a6 (fun v hv => by rcases List.mem_cons.mp hv with e | e; (rw [e]; exact (hp_lv_get a6 hg).1); exact a7 v e) a8 a9)
  next => exact hi.elim
def hl_lload_n (lv : hp_L) (i : Nat) (f : Value → Prop) : Prop := match hp_get lv i with
  | some (.long x) => f (.long x)
  | _ => False
theorem hs_lload_n (C : hp_B cc G) (hK : ∀ pc lv st h w k n, K pc lv st h w k n → hp_W G pc lv st h w k n) {i : Fin 4} (hd : decode cc pc = .ok (.lload_n i, 1)) (hi : hl_lload_n lv i.val fun v => K (pc + 1) lv (v :: st) h w k n) : hp_W G pc lv st h w k n := by
  unfold hl_lload_n at hi
  split at hi
  next x hg =>
    intro σ H locs ls a1 a2 a3 a4 a5 a6 a7 a8 a9
    exact lv_lload_n C.1 C.2.1 hd rfl (hp_lv_get a6 hg).2 (hK _ _ _ _ _ _ _ hi σ H locs ls a1 a2 a3 a4 a5 a6 (fun v hv => by rcases List.mem_cons.mp hv with e | e; (rw [e]; exact (hp_lv_get a6 hg).1); exact a7 v e) a8 a9)
  next => exact hi.elim
def hl_aload (lv : hp_L) (i : Nat) (f : Value → Prop) : Prop := match hp_get lv i with
  | some (.ref x) => f (.ref x)
  | some .null => f .null
  | _ => False
theorem hs_aload (C : hp_B cc G) (hK : ∀ pc lv st h w k n, K pc lv st h w k n → hp_W G pc lv st h w k n) {i : Nat} (hd : decode cc pc = .ok (.aload i, 2)) (hi : hl_aload lv i fun v => K (pc + 2) lv (v :: st) h w k n) : hp_W G pc lv st h w k n := by
  unfold hl_aload at hi
  split at hi
  next x hg =>
    intro σ H locs ls a1 a2 a3 a4 a5 a6 a7 a8 a9
    exact lv_aload C.1 C.2.1 hd (hp_lv_get a6 hg).2 (hK _ _ _ _ _ _ _ hi σ H locs ls a1 a2 a3 a4 a5 a6 (fun v hv => by rcases List.mem_cons.mp hv with e | e; (rw [e]; exact (hp_lv_get a6 hg).1); exact a7 v e) a8 a9)
  next hg =>
    intro σ H locs ls a1 a2 a3 a4 a5 a6 a7 a8 a9
    exact lv_aloadN C.1 C.2.1 hd (hp_lv_get a6 hg).2 (hK _ _ _ _ _ _ _ hi σ H locs ls a1 a2 a3 a4 a5 a6 (fun v hv => by rcases List.mem_cons.mp hv with e | e; (rw [e]; exact (hp_lv_get a6 hg).1); exact a7 v e) a8 a9)
  next => exact hi.elim
def hl_aload_n (lv : hp_L) (i : Nat) (f : Value → Prop) : Prop := match hp_get lv i with
  | some (.ref x) => f (.ref x)
  | some .null => f .null
  | _ => False
theorem hs_aload_n (C : hp_B cc G) (hK : ∀ pc lv st h w k n, K pc lv st h w k n → hp_W G pc lv st h w k n) {i : Fin 4} (hd : decode cc pc = .ok (.aload_n i, 1)) (hi : hl_aload_n lv i.val fun v => K (pc + 1) lv (v :: st) h w k n) : hp_W G pc lv st h w k n := by
  unfold hl_aload_n at hi
  split at hi
  next x hg =>
    intro σ H locs ls a1 a2 a3 a4 a5 a6 a7 a8 a9
    exact lv_aload_n C.1 C.2.1 hd rfl (hp_lv_get a6 hg).2 (hK _ _ _ _ _ _ _ hi σ H locs ls a1 a2 a3 a4 a5 a6 (fun v hv => by rcases List.mem_cons.mp hv with e | e; (rw [e]; exact (hp_lv_get a6 hg).1); exact a7 v e) a8 a9)
  next hg =>
    intro σ H locs ls a1 a2 a3 a4 a5 a6 a7 a8 a9
    exact lv_aload_nN C.1 C.2.1 hd rfl (hp_lv_get a6 hg).2 (hK _ _ _ _ _ _ _ hi σ H locs ls a1 a2 a3 a4 a5 a6 (fun v hv => by rcases List.mem_cons.mp hv with e | e; (rw [e]; exact (hp_lv_get a6 hg).1); exact a7 v e) a8 a9)
  next => exact hi.elim
theorem hs_istore (C : hp_B cc G) (hK : ∀ pc lv st h w k n, K pc lv st h w k n → hp_W G pc lv st h w k n) {i : Nat} (hd : decode cc pc = .ok (.istore i, 2)) (hi : cond (Nat.blt (i) (g_n G)) (st_i st fun x r => K (pc + 2) (hp_set lv i (.int x)) r h w k n) False) : hp_W G pc lv st h w k n := by
  cases hb : Nat.blt (i) (g_n G) with
  | false => rw [hb] at hi; exact hi.elim
  | true =>
    rw [hb] at hi
    obtain ⟨x, r, rfl, hj⟩ := st_i_of hi
    intro σ H locs ls a1 a2 a3 a4 a5 a6 a7 a8 a9
    have hlt : i < g_n G := by simpa [Nat.blt_eq] using hb
    exact lv_istore (x := x) C.1 C.2.1 hd (hp_lv_real a6) hlt rfl (fun ls1 hl1 => hK _ _ _ _ _ _ _ hj σ H locs ls1 a1 a2 a3 a4 a5 (hp_lv_set (v := .int x) a6 (a7 _ List.mem_cons_self) hl1) (fun v hv => a7 v (List.mem_cons_of_mem _ hv)) a8 a9)
theorem hs_istore_n (C : hp_B cc G) (hK : ∀ pc lv st h w k n, K pc lv st h w k n → hp_W G pc lv st h w k n) {i : Fin 4} (hd : decode cc pc = .ok (.istore_n i, 1)) (hi : cond (Nat.blt (i.val) (g_n G)) (st_i st fun x r => K (pc + 1) (hp_set lv i.val (.int x)) r h w k n) False) : hp_W G pc lv st h w k n := by
  cases hb : Nat.blt (i.val) (g_n G) with
  | false => rw [hb] at hi; exact hi.elim
  | true =>
    rw [hb] at hi
    obtain ⟨x, r, rfl, hj⟩ := st_i_of hi
    intro σ H locs ls a1 a2 a3 a4 a5 a6 a7 a8 a9
    have hlt : i.val < g_n G := by simpa [Nat.blt_eq] using hb
    exact lv_istore_n (x := x) C.1 C.2.1 hd rfl (hp_lv_real a6) hlt rfl (fun ls1 hl1 => hK _ _ _ _ _ _ _ hj σ H locs ls1 a1 a2 a3 a4 a5 (hp_lv_set (v := .int x) a6 (a7 _ List.mem_cons_self) hl1) (fun v hv => a7 v (List.mem_cons_of_mem _ hv)) a8 a9)
theorem hs_lstore (C : hp_B cc G) (hK : ∀ pc lv st h w k n, K pc lv st h w k n → hp_W G pc lv st h w k n) {i : Nat} (hd : decode cc pc = .ok (.lstore i, 2)) (hi : cond (Nat.blt (i + 1) (g_n G)) (st_l st fun x r => K (pc + 2) (hp_set lv i (.long x)) r h w k n) False) : hp_W G pc lv st h w k n := by
  cases hb : Nat.blt (i + 1) (g_n G) with
  | false => rw [hb] at hi; exact hi.elim
  | true =>
    rw [hb] at hi
    obtain ⟨x, r, rfl, hj⟩ := st_l_of hi
    intro σ H locs ls a1 a2 a3 a4 a5 a6 a7 a8 a9
    have hlt : i + 1 < g_n G := by simpa [Nat.blt_eq] using hb
    exact lv_lstore (x := x) C.1 C.2.1 hd (hp_lv_real a6) hlt rfl (fun ls1 hl1 => hK _ _ _ _ _ _ _ hj σ H locs ls1 a1 a2 a3 a4 a5 (hp_lv_set (v := .long x) a6 (a7 _ List.mem_cons_self) hl1) (fun v hv => a7 v (List.mem_cons_of_mem _ hv)) a8 a9)
theorem hs_lstore_n (C : hp_B cc G) (hK : ∀ pc lv st h w k n, K pc lv st h w k n → hp_W G pc lv st h w k n) {i : Fin 4} (hd : decode cc pc = .ok (.lstore_n i, 1)) (hi : cond (Nat.blt (i.val + 1) (g_n G)) (st_l st fun x r => K (pc + 1) (hp_set lv i.val (.long x)) r h w k n) False) : hp_W G pc lv st h w k n := by
  cases hb : Nat.blt (i.val + 1) (g_n G) with
  | false => rw [hb] at hi; exact hi.elim
  | true =>
    rw [hb] at hi
    obtain ⟨x, r, rfl, hj⟩ := st_l_of hi
    intro σ H locs ls a1 a2 a3 a4 a5 a6 a7 a8 a9
    have hlt : i.val + 1 < g_n G := by simpa [Nat.blt_eq] using hb
    exact lv_lstore_n (x := x) C.1 C.2.1 hd rfl (hp_lv_real a6) hlt rfl (fun ls1 hl1 => hK _ _ _ _ _ _ _ hj σ H locs ls1 a1 a2 a3 a4 a5 (hp_lv_set (v := .long x) a6 (a7 _ List.mem_cons_self) hl1) (fun v hv => a7 v (List.mem_cons_of_mem _ hv)) a8 a9)
theorem hs_astore (C : hp_B cc G) (hK : ∀ pc lv st h w k n, K pc lv st h w k n → hp_W G pc lv st h w k n) {i : Nat} (hd : decode cc pc = .ok (.astore i, 2)) (hi : cond (Nat.blt (i) (g_n G)) (st_a st fun x r => K (pc + 2) (hp_set lv i (.ref x)) r h w k n) False) : hp_W G pc lv st h w k n := by
  cases hb : Nat.blt (i) (g_n G) with
  | false => rw [hb] at hi; exact hi.elim
  | true =>
    rw [hb] at hi
    obtain ⟨x, r, rfl, hj⟩ := st_a_of hi
    intro σ H locs ls a1 a2 a3 a4 a5 a6 a7 a8 a9
    have hlt : i < g_n G := by simpa [Nat.blt_eq] using hb
    exact lv_astore (x := σ.getD x 0) C.1 C.2.1 hd (hp_lv_real a6) hlt rfl (fun ls1 hl1 => hK _ _ _ _ _ _ _ hj σ H locs ls1 a1 a2 a3 a4 a5 (hp_lv_set (v := .ref x) a6 (a7 _ List.mem_cons_self) hl1) (fun v hv => a7 v (List.mem_cons_of_mem _ hv)) a8 a9)
theorem hs_astore_n (C : hp_B cc G) (hK : ∀ pc lv st h w k n, K pc lv st h w k n → hp_W G pc lv st h w k n) {i : Fin 4} (hd : decode cc pc = .ok (.astore_n i, 1)) (hi : cond (Nat.blt (i.val) (g_n G)) (st_a st fun x r => K (pc + 1) (hp_set lv i.val (.ref x)) r h w k n) False) : hp_W G pc lv st h w k n := by
  cases hb : Nat.blt (i.val) (g_n G) with
  | false => rw [hb] at hi; exact hi.elim
  | true =>
    rw [hb] at hi
    obtain ⟨x, r, rfl, hj⟩ := st_a_of hi
    intro σ H locs ls a1 a2 a3 a4 a5 a6 a7 a8 a9
    have hlt : i.val < g_n G := by simpa [Nat.blt_eq] using hb
    exact lv_astore_n (x := σ.getD x 0) C.1 C.2.1 hd rfl (hp_lv_real a6) hlt rfl (fun ls1 hl1 => hK _ _ _ _ _ _ _ hj σ H locs ls1 a1 a2 a3 a4 a5 (hp_lv_set (v := .ref x) a6 (a7 _ List.mem_cons_self) hl1) (fun v hv => a7 v (List.mem_cons_of_mem _ hv)) a8 a9)
theorem hs_iinc (C : hp_B cc G) (hK : ∀ pc lv st h w k n, K pc lv st h w k n → hp_W G pc lv st h w k n) {i : Nat} {c : Int} (hd : decode cc pc = .ok (.iinc i c, 3)) (hi : cond (Nat.blt i (g_n G) && decide (Int32.ofInt c = hp_c c)) (match hp_get lv i with | some (.int x) => K (pc + 3) (hp_set lv i (.int (x + hp_c c))) st h w k n | _ => False) False) : hp_W G pc lv st h w k n := by
  cases hb : (Nat.blt i (g_n G) && decide (Int32.ofInt c = hp_c c)) with
  | false => rw [hb] at hi; exact hi.elim
  | true =>
    rw [hb] at hi
    rw [Bool.and_eq_true] at hb
    have hlt : i < g_n G := by simpa [Nat.blt_eq] using hb.1
    have hc := of_decide_eq_true hb.2
    change (match hp_get lv i with | some (.int x) => K (pc + 3) (hp_set lv i (.int (x + hp_c c))) st h w k n | _ => False) at hi
    split at hi
    next x hg =>
      intro σ H locs ls a1 a2 a3 a4 a5 a6 a7 a8 a9
      obtain ⟨j, hj⟩ := List.getElem?_of_mem (List.mem_map.mpr ⟨_, hp_get_mem _ _ _ hg, rfl⟩ : (i, Value.int x) ∈ lv.map fun q => (q.1, hp_cv σ q.2))
      exact lv_iinc (v := x + hp_c c) C.1 C.2.1 hd (hp_lv_real a6) hj (by rw [hc]) hlt rfl (fun ls1 hl1 => hK _ _ _ _ _ _ _ hi σ H locs ls1 a1 a2 a3 a4 a5 (hp_lv_set (v := .int (x + hp_c c)) a6 trivial hl1) a7 a8 a9)
    next => exact hi.elim
theorem hs_iadd (C : hp_B cc G) (hK : ∀ pc lv st h w k n, K pc lv st h w k n → hp_W G pc lv st h w k n)  (hd : decode cc pc = .ok (.iadd, 1)) (hi : st_i st fun y r => st_i r fun x r => K (pc + 1) lv (.int (x + y) :: r) h w k n) : hp_W G pc lv st h w k n := by
  obtain ⟨y, r, rfl, hj⟩ := st_i_of hi
  obtain ⟨x, r, rfl, hk⟩ := st_i_of hj
  intro σ H locs ls a1 a2 a3 a4 a5 a6 a7 a8 a9
  exact lv_iadd C.1 C.2.1 hd (hK _ _ _ _ _ _ _ hk σ H locs ls a1 a2 a3 a4 a5 a6 (fun v hv => by rcases List.mem_cons.mp hv with e | e; (rw [e]; trivial); exact a7 v (List.mem_cons_of_mem _ (List.mem_cons_of_mem _ e))) a8 a9)
theorem hs_isub (C : hp_B cc G) (hK : ∀ pc lv st h w k n, K pc lv st h w k n → hp_W G pc lv st h w k n)  (hd : decode cc pc = .ok (.isub, 1)) (hi : st_i st fun y r => st_i r fun x r => K (pc + 1) lv (.int (x - y) :: r) h w k n) : hp_W G pc lv st h w k n := by
  obtain ⟨y, r, rfl, hj⟩ := st_i_of hi
  obtain ⟨x, r, rfl, hk⟩ := st_i_of hj
  intro σ H locs ls a1 a2 a3 a4 a5 a6 a7 a8 a9
  exact lv_isub C.1 C.2.1 hd (hK _ _ _ _ _ _ _ hk σ H locs ls a1 a2 a3 a4 a5 a6 (fun v hv => by rcases List.mem_cons.mp hv with e | e; (rw [e]; trivial); exact a7 v (List.mem_cons_of_mem _ (List.mem_cons_of_mem _ e))) a8 a9)
theorem hs_imul (C : hp_B cc G) (hK : ∀ pc lv st h w k n, K pc lv st h w k n → hp_W G pc lv st h w k n)  (hd : decode cc pc = .ok (.imul, 1)) (hi : st_i st fun y r => st_i r fun x r => K (pc + 1) lv (.int (x * y) :: r) h w k n) : hp_W G pc lv st h w k n := by
  obtain ⟨y, r, rfl, hj⟩ := st_i_of hi
  obtain ⟨x, r, rfl, hk⟩ := st_i_of hj
  intro σ H locs ls a1 a2 a3 a4 a5 a6 a7 a8 a9
  exact lv_imul C.1 C.2.1 hd (hK _ _ _ _ _ _ _ hk σ H locs ls a1 a2 a3 a4 a5 a6 (fun v hv => by rcases List.mem_cons.mp hv with e | e; (rw [e]; trivial); exact a7 v (List.mem_cons_of_mem _ (List.mem_cons_of_mem _ e))) a8 a9)
theorem hs_iand (C : hp_B cc G) (hK : ∀ pc lv st h w k n, K pc lv st h w k n → hp_W G pc lv st h w k n)  (hd : decode cc pc = .ok (.iand, 1)) (hi : st_i st fun y r => st_i r fun x r => K (pc + 1) lv (.int (x &&& y) :: r) h w k n) : hp_W G pc lv st h w k n := by
  obtain ⟨y, r, rfl, hj⟩ := st_i_of hi
  obtain ⟨x, r, rfl, hk⟩ := st_i_of hj
  intro σ H locs ls a1 a2 a3 a4 a5 a6 a7 a8 a9
  exact lv_iand C.1 C.2.1 hd (hK _ _ _ _ _ _ _ hk σ H locs ls a1 a2 a3 a4 a5 a6 (fun v hv => by rcases List.mem_cons.mp hv with e | e; (rw [e]; trivial); exact a7 v (List.mem_cons_of_mem _ (List.mem_cons_of_mem _ e))) a8 a9)
theorem hs_ior (C : hp_B cc G) (hK : ∀ pc lv st h w k n, K pc lv st h w k n → hp_W G pc lv st h w k n)  (hd : decode cc pc = .ok (.ior, 1)) (hi : st_i st fun y r => st_i r fun x r => K (pc + 1) lv (.int (x ||| y) :: r) h w k n) : hp_W G pc lv st h w k n := by
  obtain ⟨y, r, rfl, hj⟩ := st_i_of hi
  obtain ⟨x, r, rfl, hk⟩ := st_i_of hj
  intro σ H locs ls a1 a2 a3 a4 a5 a6 a7 a8 a9
  exact lv_ior C.1 C.2.1 hd (hK _ _ _ _ _ _ _ hk σ H locs ls a1 a2 a3 a4 a5 a6 (fun v hv => by rcases List.mem_cons.mp hv with e | e; (rw [e]; trivial); exact a7 v (List.mem_cons_of_mem _ (List.mem_cons_of_mem _ e))) a8 a9)
theorem hs_ixor (C : hp_B cc G) (hK : ∀ pc lv st h w k n, K pc lv st h w k n → hp_W G pc lv st h w k n)  (hd : decode cc pc = .ok (.ixor, 1)) (hi : st_i st fun y r => st_i r fun x r => K (pc + 1) lv (.int (x ^^^ y) :: r) h w k n) : hp_W G pc lv st h w k n := by
  obtain ⟨y, r, rfl, hj⟩ := st_i_of hi
  obtain ⟨x, r, rfl, hk⟩ := st_i_of hj
  intro σ H locs ls a1 a2 a3 a4 a5 a6 a7 a8 a9
  exact lv_ixor C.1 C.2.1 hd (hK _ _ _ _ _ _ _ hk σ H locs ls a1 a2 a3 a4 a5 a6 (fun v hv => by rcases List.mem_cons.mp hv with e | e; (rw [e]; trivial); exact a7 v (List.mem_cons_of_mem _ (List.mem_cons_of_mem _ e))) a8 a9)
theorem hs_ishl (C : hp_B cc G) (hK : ∀ pc lv st h w k n, K pc lv st h w k n → hp_W G pc lv st h w k n)  (hd : decode cc pc = .ok (.ishl, 1)) (hi : st_i st fun y r => st_i r fun x r => K (pc + 1) lv (.int (x <<< (y &&& 31)) :: r) h w k n) : hp_W G pc lv st h w k n := by
  obtain ⟨y, r, rfl, hj⟩ := st_i_of hi
  obtain ⟨x, r, rfl, hk⟩ := st_i_of hj
  intro σ H locs ls a1 a2 a3 a4 a5 a6 a7 a8 a9
  exact lv_ishl C.1 C.2.1 hd (hK _ _ _ _ _ _ _ hk σ H locs ls a1 a2 a3 a4 a5 a6 (fun v hv => by rcases List.mem_cons.mp hv with e | e; (rw [e]; trivial); exact a7 v (List.mem_cons_of_mem _ (List.mem_cons_of_mem _ e))) a8 a9)
theorem hs_ishr (C : hp_B cc G) (hK : ∀ pc lv st h w k n, K pc lv st h w k n → hp_W G pc lv st h w k n)  (hd : decode cc pc = .ok (.ishr, 1)) (hi : st_i st fun y r => st_i r fun x r => K (pc + 1) lv (.int (x >>> (y &&& 31)) :: r) h w k n) : hp_W G pc lv st h w k n := by
  obtain ⟨y, r, rfl, hj⟩ := st_i_of hi
  obtain ⟨x, r, rfl, hk⟩ := st_i_of hj
  intro σ H locs ls a1 a2 a3 a4 a5 a6 a7 a8 a9
  exact lv_ishr C.1 C.2.1 hd (hK _ _ _ _ _ _ _ hk σ H locs ls a1 a2 a3 a4 a5 a6 (fun v hv => by rcases List.mem_cons.mp hv with e | e; (rw [e]; trivial); exact a7 v (List.mem_cons_of_mem _ (List.mem_cons_of_mem _ e))) a8 a9)
theorem hs_ladd (C : hp_B cc G) (hK : ∀ pc lv st h w k n, K pc lv st h w k n → hp_W G pc lv st h w k n)  (hd : decode cc pc = .ok (.ladd, 1)) (hi : st_l st fun y r => st_l r fun x r => K (pc + 1) lv (.long (x + y) :: r) h w k n) : hp_W G pc lv st h w k n := by
  obtain ⟨y, r, rfl, hj⟩ := st_l_of hi
  obtain ⟨x, r, rfl, hk⟩ := st_l_of hj
  intro σ H locs ls a1 a2 a3 a4 a5 a6 a7 a8 a9
  exact lv_ladd C.1 C.2.1 hd (hK _ _ _ _ _ _ _ hk σ H locs ls a1 a2 a3 a4 a5 a6 (fun v hv => by rcases List.mem_cons.mp hv with e | e; (rw [e]; trivial); exact a7 v (List.mem_cons_of_mem _ (List.mem_cons_of_mem _ e))) a8 a9)
theorem hs_lsub (C : hp_B cc G) (hK : ∀ pc lv st h w k n, K pc lv st h w k n → hp_W G pc lv st h w k n)  (hd : decode cc pc = .ok (.lsub, 1)) (hi : st_l st fun y r => st_l r fun x r => K (pc + 1) lv (.long (x - y) :: r) h w k n) : hp_W G pc lv st h w k n := by
  obtain ⟨y, r, rfl, hj⟩ := st_l_of hi
  obtain ⟨x, r, rfl, hk⟩ := st_l_of hj
  intro σ H locs ls a1 a2 a3 a4 a5 a6 a7 a8 a9
  exact lv_lsub C.1 C.2.1 hd (hK _ _ _ _ _ _ _ hk σ H locs ls a1 a2 a3 a4 a5 a6 (fun v hv => by rcases List.mem_cons.mp hv with e | e; (rw [e]; trivial); exact a7 v (List.mem_cons_of_mem _ (List.mem_cons_of_mem _ e))) a8 a9)
theorem hs_lmul (C : hp_B cc G) (hK : ∀ pc lv st h w k n, K pc lv st h w k n → hp_W G pc lv st h w k n)  (hd : decode cc pc = .ok (.lmul, 1)) (hi : st_l st fun y r => st_l r fun x r => K (pc + 1) lv (.long (x * y) :: r) h w k n) : hp_W G pc lv st h w k n := by
  obtain ⟨y, r, rfl, hj⟩ := st_l_of hi
  obtain ⟨x, r, rfl, hk⟩ := st_l_of hj
  intro σ H locs ls a1 a2 a3 a4 a5 a6 a7 a8 a9
  exact lv_lmul C.1 C.2.1 hd (hK _ _ _ _ _ _ _ hk σ H locs ls a1 a2 a3 a4 a5 a6 (fun v hv => by rcases List.mem_cons.mp hv with e | e; (rw [e]; trivial); exact a7 v (List.mem_cons_of_mem _ (List.mem_cons_of_mem _ e))) a8 a9)
theorem hs_land (C : hp_B cc G) (hK : ∀ pc lv st h w k n, K pc lv st h w k n → hp_W G pc lv st h w k n)  (hd : decode cc pc = .ok (.land, 1)) (hi : st_l st fun y r => st_l r fun x r => K (pc + 1) lv (.long (x &&& y) :: r) h w k n) : hp_W G pc lv st h w k n := by
  obtain ⟨y, r, rfl, hj⟩ := st_l_of hi
  obtain ⟨x, r, rfl, hk⟩ := st_l_of hj
  intro σ H locs ls a1 a2 a3 a4 a5 a6 a7 a8 a9
  exact lv_land C.1 C.2.1 hd (hK _ _ _ _ _ _ _ hk σ H locs ls a1 a2 a3 a4 a5 a6 (fun v hv => by rcases List.mem_cons.mp hv with e | e; (rw [e]; trivial); exact a7 v (List.mem_cons_of_mem _ (List.mem_cons_of_mem _ e))) a8 a9)
theorem hs_lor (C : hp_B cc G) (hK : ∀ pc lv st h w k n, K pc lv st h w k n → hp_W G pc lv st h w k n)  (hd : decode cc pc = .ok (.lor, 1)) (hi : st_l st fun y r => st_l r fun x r => K (pc + 1) lv (.long (x ||| y) :: r) h w k n) : hp_W G pc lv st h w k n := by
  obtain ⟨y, r, rfl, hj⟩ := st_l_of hi
  obtain ⟨x, r, rfl, hk⟩ := st_l_of hj
  intro σ H locs ls a1 a2 a3 a4 a5 a6 a7 a8 a9
  exact lv_lor C.1 C.2.1 hd (hK _ _ _ _ _ _ _ hk σ H locs ls a1 a2 a3 a4 a5 a6 (fun v hv => by rcases List.mem_cons.mp hv with e | e; (rw [e]; trivial); exact a7 v (List.mem_cons_of_mem _ (List.mem_cons_of_mem _ e))) a8 a9)
theorem hs_lxor (C : hp_B cc G) (hK : ∀ pc lv st h w k n, K pc lv st h w k n → hp_W G pc lv st h w k n)  (hd : decode cc pc = .ok (.lxor, 1)) (hi : st_l st fun y r => st_l r fun x r => K (pc + 1) lv (.long (x ^^^ y) :: r) h w k n) : hp_W G pc lv st h w k n := by
  obtain ⟨y, r, rfl, hj⟩ := st_l_of hi
  obtain ⟨x, r, rfl, hk⟩ := st_l_of hj
  intro σ H locs ls a1 a2 a3 a4 a5 a6 a7 a8 a9
  exact lv_lxor C.1 C.2.1 hd (hK _ _ _ _ _ _ _ hk σ H locs ls a1 a2 a3 a4 a5 a6 (fun v hv => by rcases List.mem_cons.mp hv with e | e; (rw [e]; trivial); exact a7 v (List.mem_cons_of_mem _ (List.mem_cons_of_mem _ e))) a8 a9)
theorem hs_idiv (C : hp_B cc G) (hK : ∀ pc lv st h w k n, K pc lv st h w k n → hp_W G pc lv st h w k n)  (hd : decode cc pc = .ok (.idiv, 1)) (hi : st_i st fun y r => st_i r fun x r => ¬ y = 0 ∧ K (pc + 1) lv (.int (x / y) :: r) h w k n) : hp_W G pc lv st h w k n := by
  obtain ⟨y, r, rfl, hj⟩ := st_i_of hi
  obtain ⟨x, r, rfl, hk⟩ := st_i_of hj
  intro σ H locs ls a1 a2 a3 a4 a5 a6 a7 a8 a9
  exact lv_idiv C.1 C.2.1 hd hk.1 (hK _ _ _ _ _ _ _ hk.2 σ H locs ls a1 a2 a3 a4 a5 a6 (fun v hv => by rcases List.mem_cons.mp hv with e | e; (rw [e]; trivial); exact a7 v (List.mem_cons_of_mem _ (List.mem_cons_of_mem _ e))) a8 a9)
theorem hs_irem (C : hp_B cc G) (hK : ∀ pc lv st h w k n, K pc lv st h w k n → hp_W G pc lv st h w k n)  (hd : decode cc pc = .ok (.irem, 1)) (hi : st_i st fun y r => st_i r fun x r => ¬ y = 0 ∧ K (pc + 1) lv (.int (x - x / y * y) :: r) h w k n) : hp_W G pc lv st h w k n := by
  obtain ⟨y, r, rfl, hj⟩ := st_i_of hi
  obtain ⟨x, r, rfl, hk⟩ := st_i_of hj
  intro σ H locs ls a1 a2 a3 a4 a5 a6 a7 a8 a9
  exact lv_irem C.1 C.2.1 hd hk.1 (hK _ _ _ _ _ _ _ hk.2 σ H locs ls a1 a2 a3 a4 a5 a6 (fun v hv => by rcases List.mem_cons.mp hv with e | e; (rw [e]; trivial); exact a7 v (List.mem_cons_of_mem _ (List.mem_cons_of_mem _ e))) a8 a9)
theorem hs_iushr (C : hp_B cc G) (hK : ∀ pc lv st h w k n, K pc lv st h w k n → hp_W G pc lv st h w k n)  (hd : decode cc pc = .ok (.iushr, 1)) (hi : st_i st fun y r => st_i r fun x r => K (pc + 1) lv (.int ((x.toUInt32 >>> (y.toUInt32 &&& Int32.toUInt32 31)).toInt32) :: r) h w k n) : hp_W G pc lv st h w k n := by
  obtain ⟨y, r, rfl, hj⟩ := st_i_of hi
  obtain ⟨x, r, rfl, hk⟩ := st_i_of hj
  intro σ H locs ls a1 a2 a3 a4 a5 a6 a7 a8 a9
  exact lv_iushr C.1 C.2.1 hd rfl (hK _ _ _ _ _ _ _ hk σ H locs ls a1 a2 a3 a4 a5 a6 (fun v hv => by rcases List.mem_cons.mp hv with e | e; (rw [e]; trivial); exact a7 v (List.mem_cons_of_mem _ (List.mem_cons_of_mem _ e))) a8 a9)
theorem hs_lushr (C : hp_B cc G) (hK : ∀ pc lv st h w k n, K pc lv st h w k n → hp_W G pc lv st h w k n)  (hd : decode cc pc = .ok (.lushr, 1)) (hi : st_i st fun y r => st_l r fun x r => K (pc + 1) lv (.long ((x.toUInt64 >>> (y.toInt64.toUInt64 &&& Int64.toUInt64 63)).toInt64) :: r) h w k n) : hp_W G pc lv st h w k n := by
  obtain ⟨y, r, rfl, hj⟩ := st_i_of hi
  obtain ⟨x, r, rfl, hk⟩ := st_l_of hj
  intro σ H locs ls a1 a2 a3 a4 a5 a6 a7 a8 a9
  exact lv_lushr C.1 C.2.1 hd rfl (hK _ _ _ _ _ _ _ hk σ H locs ls a1 a2 a3 a4 a5 a6 (fun v hv => by rcases List.mem_cons.mp hv with e | e; (rw [e]; trivial); exact a7 v (List.mem_cons_of_mem _ (List.mem_cons_of_mem _ e))) a8 a9)
theorem hs_lshl (C : hp_B cc G) (hK : ∀ pc lv st h w k n, K pc lv st h w k n → hp_W G pc lv st h w k n)  (hd : decode cc pc = .ok (.lshl, 1)) (hi : st_i st fun y r => st_l r fun x r => K (pc + 1) lv (.long (x <<< (y.toInt64 &&& 63)) :: r) h w k n) : hp_W G pc lv st h w k n := by
  obtain ⟨y, r, rfl, hj⟩ := st_i_of hi
  obtain ⟨x, r, rfl, hk⟩ := st_l_of hj
  intro σ H locs ls a1 a2 a3 a4 a5 a6 a7 a8 a9
  exact lv_lshl C.1 C.2.1 hd rfl (hK _ _ _ _ _ _ _ hk σ H locs ls a1 a2 a3 a4 a5 a6 (fun v hv => by rcases List.mem_cons.mp hv with e | e; (rw [e]; trivial); exact a7 v (List.mem_cons_of_mem _ (List.mem_cons_of_mem _ e))) a8 a9)
theorem hs_lshr (C : hp_B cc G) (hK : ∀ pc lv st h w k n, K pc lv st h w k n → hp_W G pc lv st h w k n)  (hd : decode cc pc = .ok (.lshr, 1)) (hi : st_i st fun y r => st_l r fun x r => K (pc + 1) lv (.long (x >>> (y.toInt64 &&& 63)) :: r) h w k n) : hp_W G pc lv st h w k n := by
  obtain ⟨y, r, rfl, hj⟩ := st_i_of hi
  obtain ⟨x, r, rfl, hk⟩ := st_l_of hj
  intro σ H locs ls a1 a2 a3 a4 a5 a6 a7 a8 a9
  exact lv_lshr C.1 C.2.1 hd rfl (hK _ _ _ _ _ _ _ hk σ H locs ls a1 a2 a3 a4 a5 a6 (fun v hv => by rcases List.mem_cons.mp hv with e | e; (rw [e]; trivial); exact a7 v (List.mem_cons_of_mem _ (List.mem_cons_of_mem _ e))) a8 a9)
theorem hs_lcmp (C : hp_B cc G) (hK : ∀ pc lv st h w k n, K pc lv st h w k n → hp_W G pc lv st h w k n)  (hd : decode cc pc = .ok (.lcmp, 1)) (hi : st_l st fun y r => st_l r fun x r => K (pc + 1) lv (.int (lg_cmp x y) :: r) h w k n) : hp_W G pc lv st h w k n := by
  obtain ⟨y, r, rfl, hj⟩ := st_l_of hi
  obtain ⟨x, r, rfl, hk⟩ := st_l_of hj
  intro σ H locs ls a1 a2 a3 a4 a5 a6 a7 a8 a9
  exact W.lcmp C.1 C.2.1 hd (hK _ _ _ _ _ _ _ hk σ H locs ls a1 a2 a3 a4 a5 a6 (fun v hv => by rcases List.mem_cons.mp hv with e | e; (rw [e]; trivial); exact a7 v (List.mem_cons_of_mem _ (List.mem_cons_of_mem _ e))) a8 a9)
theorem hs_ineg (C : hp_B cc G) (hK : ∀ pc lv st h w k n, K pc lv st h w k n → hp_W G pc lv st h w k n)  (hd : decode cc pc = .ok (.ineg, 1)) (hi : st_i st fun x r => K (pc + 1) lv (.int (-x) :: r) h w k n) : hp_W G pc lv st h w k n := by
  obtain ⟨x, r, rfl, hj⟩ := st_i_of hi
  intro σ H locs ls a1 a2 a3 a4 a5 a6 a7 a8 a9
  exact lv_ineg C.1 C.2.1 hd (hK _ _ _ _ _ _ _ hj σ H locs ls a1 a2 a3 a4 a5 a6 (fun v hv => by rcases List.mem_cons.mp hv with e | e; (rw [e]; trivial); exact a7 v (List.mem_cons_of_mem _ e)) a8 a9)
theorem hs_lneg (C : hp_B cc G) (hK : ∀ pc lv st h w k n, K pc lv st h w k n → hp_W G pc lv st h w k n)  (hd : decode cc pc = .ok (.lneg, 1)) (hi : st_l st fun x r => K (pc + 1) lv (.long (-x) :: r) h w k n) : hp_W G pc lv st h w k n := by
  obtain ⟨x, r, rfl, hj⟩ := st_l_of hi
  intro σ H locs ls a1 a2 a3 a4 a5 a6 a7 a8 a9
  exact lv_lneg C.1 C.2.1 hd (hK _ _ _ _ _ _ _ hj σ H locs ls a1 a2 a3 a4 a5 a6 (fun v hv => by rcases List.mem_cons.mp hv with e | e; (rw [e]; trivial); exact a7 v (List.mem_cons_of_mem _ e)) a8 a9)
theorem hs_i2l (C : hp_B cc G) (hK : ∀ pc lv st h w k n, K pc lv st h w k n → hp_W G pc lv st h w k n)  (hd : decode cc pc = .ok (.i2l, 1)) (hi : st_i st fun x r => K (pc + 1) lv (.long (x.toInt64) :: r) h w k n) : hp_W G pc lv st h w k n := by
  obtain ⟨x, r, rfl, hj⟩ := st_i_of hi
  intro σ H locs ls a1 a2 a3 a4 a5 a6 a7 a8 a9
  exact lv_i2l C.1 C.2.1 hd rfl (hK _ _ _ _ _ _ _ hj σ H locs ls a1 a2 a3 a4 a5 a6 (fun v hv => by rcases List.mem_cons.mp hv with e | e; (rw [e]; trivial); exact a7 v (List.mem_cons_of_mem _ e)) a8 a9)
theorem hs_l2i (C : hp_B cc G) (hK : ∀ pc lv st h w k n, K pc lv st h w k n → hp_W G pc lv st h w k n)  (hd : decode cc pc = .ok (.l2i, 1)) (hi : st_l st fun x r => K (pc + 1) lv (.int (x.toInt32) :: r) h w k n) : hp_W G pc lv st h w k n := by
  obtain ⟨x, r, rfl, hj⟩ := st_l_of hi
  intro σ H locs ls a1 a2 a3 a4 a5 a6 a7 a8 a9
  exact lv_l2i C.1 C.2.1 hd rfl (hK _ _ _ _ _ _ _ hj σ H locs ls a1 a2 a3 a4 a5 a6 (fun v hv => by rcases List.mem_cons.mp hv with e | e; (rw [e]; trivial); exact a7 v (List.mem_cons_of_mem _ e)) a8 a9)
theorem hs_dup (C : hp_B cc G) (hK : ∀ pc lv st h w k n, K pc lv st h w k n → hp_W G pc lv st h w k n)  (hd : decode cc pc = .ok (.dup, 1)) (hi : st_v st fun x r => cond (Nat.beq x.category 1) (K (pc + 1) lv (x :: x :: r) h w k n) False) : hp_W G pc lv st h w k n := by
  obtain ⟨x, r, rfl, hj⟩ := st_v_of hi
  cases hb : Nat.beq x.category 1 with
  | false => rw [hb] at hj; exact hj.elim
  | true =>
    rw [hb] at hj
    intro σ H locs ls a1 a2 a3 a4 a5 a6 a7 a8 a9
    exact lv_dup C.1 C.2.1 hd (by rw [hp_cv_cat]; exact Nat.eq_of_beq_eq_true hb) (hK _ _ _ _ _ _ _ hj σ H locs ls a1 a2 a3 a4 a5 a6 (fun v hv => by rcases List.mem_cons.mp hv with e | e; (rw [e]; exact a7 x List.mem_cons_self); exact a7 v e) a8 a9)
theorem hs_pop (C : hp_B cc G) (hK : ∀ pc lv st h w k n, K pc lv st h w k n → hp_W G pc lv st h w k n)  (hd : decode cc pc = .ok (.pop, 1)) (hi : st_v st fun x r => cond (Nat.beq x.category 1) (K (pc + 1) lv r h w k n) False) : hp_W G pc lv st h w k n := by
  obtain ⟨x, r, rfl, hj⟩ := st_v_of hi
  cases hb : Nat.beq x.category 1 with
  | false => rw [hb] at hj; exact hj.elim
  | true =>
    rw [hb] at hj
    intro σ H locs ls a1 a2 a3 a4 a5 a6 a7 a8 a9
    exact lv_pop C.1 C.2.1 hd (by rw [hp_cv_cat]; exact Nat.eq_of_beq_eq_true hb) (hK _ _ _ _ _ _ _ hj σ H locs ls a1 a2 a3 a4 a5 a6 (fun v hv => a7 v (List.mem_cons_of_mem _ hv)) a8 a9)
theorem hs_dup2 (C : hp_B cc G) (hK : ∀ pc lv st h w k n, K pc lv st h w k n → hp_W G pc lv st h w k n)  (hd : decode cc pc = .ok (.dup2, 1)) (hi : st_v st fun x r => cond (Nat.beq x.category 2) (K (pc + 1) lv (x :: x :: r) h w k n) (st_v r fun y r => cond (Nat.beq x.category 1 && Nat.beq y.category 1) (K (pc + 1) lv (x :: y :: x :: y :: r) h w k n) False)) : hp_W G pc lv st h w k n := by
  obtain ⟨x, r, rfl, hj⟩ := st_v_of hi
  cases hb : Nat.beq x.category 2 with
  | true =>
    rw [hb] at hj
    intro σ H locs ls a1 a2 a3 a4 a5 a6 a7 a8 a9
    exact lv_dup2_2 C.1 C.2.1 hd (by rw [hp_cv_cat]; exact Nat.eq_of_beq_eq_true hb) (hK _ _ _ _ _ _ _ hj σ H locs ls a1 a2 a3 a4 a5 a6 (fun v hv => by rcases List.mem_cons.mp hv with e | e; (rw [e]; exact a7 x List.mem_cons_self); exact a7 v e) a8 a9)
  | false =>
    rw [hb] at hj
    obtain ⟨y, r, rfl, hk⟩ := st_v_of hj
    cases hb2 : (Nat.beq x.category 1 && Nat.beq y.category 1) with
    | false => rw [hb2] at hk; exact hk.elim
    | true =>
      rw [hb2] at hk
      intro σ H locs ls a1 a2 a3 a4 a5 a6 a7 a8 a9
      rw [Bool.and_eq_true] at hb2
      exact lv_dup2_11 C.1 C.2.1 hd (by rw [hp_cv_cat]; exact Nat.eq_of_beq_eq_true hb2.1) (by rw [hp_cv_cat]; exact Nat.eq_of_beq_eq_true hb2.2) (hK _ _ _ _ _ _ _ hk σ H locs ls a1 a2 a3 a4 a5 a6 (fun v hv => by rcases List.mem_cons.mp hv with e | e; (rw [e]; exact a7 x List.mem_cons_self); rcases List.mem_cons.mp e with e | e; (rw [e]; exact a7 y (List.mem_cons_of_mem _ List.mem_cons_self)); exact a7 v e) a8 a9)
theorem hs_dup_x1 (C : hp_B cc G) (hK : ∀ pc lv st h w k n, K pc lv st h w k n → hp_W G pc lv st h w k n)  (hd : decode cc pc = .ok (.dup_x1, 1)) (hi : st_v st fun x r => st_v r fun y r => cond (Nat.beq x.category 1 && Nat.beq y.category 1) (K (pc + 1) lv (x :: y :: x :: r) h w k n) False) : hp_W G pc lv st h w k n := by
  obtain ⟨x, r, rfl, hj⟩ := st_v_of hi
  obtain ⟨y, r, rfl, hk⟩ := st_v_of hj
  cases hb : (Nat.beq x.category 1 && Nat.beq y.category 1) with
  | false => rw [hb] at hk; exact hk.elim
  | true =>
    rw [hb] at hk
    intro σ H locs ls a1 a2 a3 a4 a5 a6 a7 a8 a9
    rw [Bool.and_eq_true] at hb
    exact lv_dup_x1 C.1 C.2.1 hd (by rw [hp_cv_cat]; exact Nat.eq_of_beq_eq_true hb.1) (by rw [hp_cv_cat]; exact Nat.eq_of_beq_eq_true hb.2) (hK _ _ _ _ _ _ _ hk σ H locs ls a1 a2 a3 a4 a5 a6 (fun v hv => by rcases List.mem_cons.mp hv with e | e; (rw [e]; exact a7 x List.mem_cons_self); rcases List.mem_cons.mp e with e | e; (rw [e]; exact a7 y (List.mem_cons_of_mem _ List.mem_cons_self)); rcases List.mem_cons.mp e with e | e; (rw [e]; exact a7 x List.mem_cons_self); exact a7 v (List.mem_cons_of_mem _ (List.mem_cons_of_mem _ e))) a8 a9)
theorem hs_if_eq (C : hp_B cc G) (hK : ∀ pc lv st h w k n, K pc lv st h w k n → hp_W G pc lv st h w k n) {o : Int} (hd : decode cc pc = .ok (.ifCond .eq o, 3)) (hi : st_i st fun x r => hp_go pc o fun q => (x = 0 → K q lv r h w k n) ∧ (¬ x = 0 → K (pc + 3) lv r h w k n)) : hp_W G pc lv st h w k n := by
  obtain ⟨x, r, rfl, hj⟩ := st_i_of hi
  obtain ⟨ht, hk⟩ := hp_go_of hj
  intro σ H locs ls a1 a2 a3 a4 a5 a6 a7 a8 a9
  exact lv_if_eq C.1 C.2.1 hd ht (fun q => hK _ _ _ _ _ _ _ (hk.1 q) σ H locs ls a1 a2 a3 a4 a5 a6 (fun v hv => a7 v (List.mem_cons_of_mem _ hv)) a8 a9) (fun q => hK _ _ _ _ _ _ _ (hk.2 q) σ H locs ls a1 a2 a3 a4 a5 a6 (fun v hv => a7 v (List.mem_cons_of_mem _ hv)) a8 a9)
theorem hs_if_ne (C : hp_B cc G) (hK : ∀ pc lv st h w k n, K pc lv st h w k n → hp_W G pc lv st h w k n) {o : Int} (hd : decode cc pc = .ok (.ifCond .ne o, 3)) (hi : st_i st fun x r => hp_go pc o fun q => (¬ x = 0 → K q lv r h w k n) ∧ (x = 0 → K (pc + 3) lv r h w k n)) : hp_W G pc lv st h w k n := by
  obtain ⟨x, r, rfl, hj⟩ := st_i_of hi
  obtain ⟨ht, hk⟩ := hp_go_of hj
  intro σ H locs ls a1 a2 a3 a4 a5 a6 a7 a8 a9
  exact lv_if_ne C.1 C.2.1 hd ht (fun q => hK _ _ _ _ _ _ _ (hk.1 q) σ H locs ls a1 a2 a3 a4 a5 a6 (fun v hv => a7 v (List.mem_cons_of_mem _ hv)) a8 a9) (fun q => hK _ _ _ _ _ _ _ (hk.2 q) σ H locs ls a1 a2 a3 a4 a5 a6 (fun v hv => a7 v (List.mem_cons_of_mem _ hv)) a8 a9)
theorem hs_if_lt (C : hp_B cc G) (hK : ∀ pc lv st h w k n, K pc lv st h w k n → hp_W G pc lv st h w k n) {o : Int} (hd : decode cc pc = .ok (.ifCond .lt o, 3)) (hi : st_i st fun x r => hp_go pc o fun q => (x < 0 → K q lv r h w k n) ∧ (¬ x < 0 → K (pc + 3) lv r h w k n)) : hp_W G pc lv st h w k n := by
  obtain ⟨x, r, rfl, hj⟩ := st_i_of hi
  obtain ⟨ht, hk⟩ := hp_go_of hj
  intro σ H locs ls a1 a2 a3 a4 a5 a6 a7 a8 a9
  exact lv_if_lt C.1 C.2.1 hd ht (fun q => hK _ _ _ _ _ _ _ (hk.1 q) σ H locs ls a1 a2 a3 a4 a5 a6 (fun v hv => a7 v (List.mem_cons_of_mem _ hv)) a8 a9) (fun q => hK _ _ _ _ _ _ _ (hk.2 q) σ H locs ls a1 a2 a3 a4 a5 a6 (fun v hv => a7 v (List.mem_cons_of_mem _ hv)) a8 a9)
theorem hs_if_ge (C : hp_B cc G) (hK : ∀ pc lv st h w k n, K pc lv st h w k n → hp_W G pc lv st h w k n) {o : Int} (hd : decode cc pc = .ok (.ifCond .ge o, 3)) (hi : st_i st fun x r => hp_go pc o fun q => (0 ≤ x → K q lv r h w k n) ∧ (¬ 0 ≤ x → K (pc + 3) lv r h w k n)) : hp_W G pc lv st h w k n := by
  obtain ⟨x, r, rfl, hj⟩ := st_i_of hi
  obtain ⟨ht, hk⟩ := hp_go_of hj
  intro σ H locs ls a1 a2 a3 a4 a5 a6 a7 a8 a9
  exact lv_if_ge C.1 C.2.1 hd ht (fun q => hK _ _ _ _ _ _ _ (hk.1 q) σ H locs ls a1 a2 a3 a4 a5 a6 (fun v hv => a7 v (List.mem_cons_of_mem _ hv)) a8 a9) (fun q => hK _ _ _ _ _ _ _ (hk.2 q) σ H locs ls a1 a2 a3 a4 a5 a6 (fun v hv => a7 v (List.mem_cons_of_mem _ hv)) a8 a9)
theorem hs_if_gt (C : hp_B cc G) (hK : ∀ pc lv st h w k n, K pc lv st h w k n → hp_W G pc lv st h w k n) {o : Int} (hd : decode cc pc = .ok (.ifCond .gt o, 3)) (hi : st_i st fun x r => hp_go pc o fun q => (0 < x → K q lv r h w k n) ∧ (¬ 0 < x → K (pc + 3) lv r h w k n)) : hp_W G pc lv st h w k n := by
  obtain ⟨x, r, rfl, hj⟩ := st_i_of hi
  obtain ⟨ht, hk⟩ := hp_go_of hj
  intro σ H locs ls a1 a2 a3 a4 a5 a6 a7 a8 a9
  exact lv_if_gt C.1 C.2.1 hd ht (fun q => hK _ _ _ _ _ _ _ (hk.1 q) σ H locs ls a1 a2 a3 a4 a5 a6 (fun v hv => a7 v (List.mem_cons_of_mem _ hv)) a8 a9) (fun q => hK _ _ _ _ _ _ _ (hk.2 q) σ H locs ls a1 a2 a3 a4 a5 a6 (fun v hv => a7 v (List.mem_cons_of_mem _ hv)) a8 a9)
theorem hs_if_le (C : hp_B cc G) (hK : ∀ pc lv st h w k n, K pc lv st h w k n → hp_W G pc lv st h w k n) {o : Int} (hd : decode cc pc = .ok (.ifCond .le o, 3)) (hi : st_i st fun x r => hp_go pc o fun q => (x ≤ 0 → K q lv r h w k n) ∧ (¬ x ≤ 0 → K (pc + 3) lv r h w k n)) : hp_W G pc lv st h w k n := by
  obtain ⟨x, r, rfl, hj⟩ := st_i_of hi
  obtain ⟨ht, hk⟩ := hp_go_of hj
  intro σ H locs ls a1 a2 a3 a4 a5 a6 a7 a8 a9
  exact lv_if_le C.1 C.2.1 hd ht (fun q => hK _ _ _ _ _ _ _ (hk.1 q) σ H locs ls a1 a2 a3 a4 a5 a6 (fun v hv => a7 v (List.mem_cons_of_mem _ hv)) a8 a9) (fun q => hK _ _ _ _ _ _ _ (hk.2 q) σ H locs ls a1 a2 a3 a4 a5 a6 (fun v hv => a7 v (List.mem_cons_of_mem _ hv)) a8 a9)
theorem hs_icmp_eq (C : hp_B cc G) (hK : ∀ pc lv st h w k n, K pc lv st h w k n → hp_W G pc lv st h w k n) {o : Int} (hd : decode cc pc = .ok (.if_icmp .eq o, 3)) (hi : st_i st fun y r => st_i r fun x r => hp_go pc o fun q => (x = y → K q lv r h w k n) ∧ (¬ x = y → K (pc + 3) lv r h w k n)) : hp_W G pc lv st h w k n := by
  obtain ⟨y, r, rfl, hj⟩ := st_i_of hi
  obtain ⟨x, r, rfl, hk⟩ := st_i_of hj
  obtain ⟨ht, hl⟩ := hp_go_of hk
  intro σ H locs ls a1 a2 a3 a4 a5 a6 a7 a8 a9
  exact lv_icmp_eq C.1 C.2.1 hd ht (fun q => hK _ _ _ _ _ _ _ (hl.1 q) σ H locs ls a1 a2 a3 a4 a5 a6 (fun v hv => a7 v (List.mem_cons_of_mem _ (List.mem_cons_of_mem _ hv))) a8 a9) (fun q => hK _ _ _ _ _ _ _ (hl.2 q) σ H locs ls a1 a2 a3 a4 a5 a6 (fun v hv => a7 v (List.mem_cons_of_mem _ (List.mem_cons_of_mem _ hv))) a8 a9)
theorem hs_icmp_ne (C : hp_B cc G) (hK : ∀ pc lv st h w k n, K pc lv st h w k n → hp_W G pc lv st h w k n) {o : Int} (hd : decode cc pc = .ok (.if_icmp .ne o, 3)) (hi : st_i st fun y r => st_i r fun x r => hp_go pc o fun q => (¬ x = y → K q lv r h w k n) ∧ (x = y → K (pc + 3) lv r h w k n)) : hp_W G pc lv st h w k n := by
  obtain ⟨y, r, rfl, hj⟩ := st_i_of hi
  obtain ⟨x, r, rfl, hk⟩ := st_i_of hj
  obtain ⟨ht, hl⟩ := hp_go_of hk
  intro σ H locs ls a1 a2 a3 a4 a5 a6 a7 a8 a9
  exact lv_icmp_ne C.1 C.2.1 hd ht (fun q => hK _ _ _ _ _ _ _ (hl.1 q) σ H locs ls a1 a2 a3 a4 a5 a6 (fun v hv => a7 v (List.mem_cons_of_mem _ (List.mem_cons_of_mem _ hv))) a8 a9) (fun q => hK _ _ _ _ _ _ _ (hl.2 q) σ H locs ls a1 a2 a3 a4 a5 a6 (fun v hv => a7 v (List.mem_cons_of_mem _ (List.mem_cons_of_mem _ hv))) a8 a9)
theorem hs_icmp_lt (C : hp_B cc G) (hK : ∀ pc lv st h w k n, K pc lv st h w k n → hp_W G pc lv st h w k n) {o : Int} (hd : decode cc pc = .ok (.if_icmp .lt o, 3)) (hi : st_i st fun y r => st_i r fun x r => hp_go pc o fun q => (x < y → K q lv r h w k n) ∧ (¬ x < y → K (pc + 3) lv r h w k n)) : hp_W G pc lv st h w k n := by
  obtain ⟨y, r, rfl, hj⟩ := st_i_of hi
  obtain ⟨x, r, rfl, hk⟩ := st_i_of hj
  obtain ⟨ht, hl⟩ := hp_go_of hk
  intro σ H locs ls a1 a2 a3 a4 a5 a6 a7 a8 a9
  exact lv_icmp_lt C.1 C.2.1 hd ht (fun q => hK _ _ _ _ _ _ _ (hl.1 q) σ H locs ls a1 a2 a3 a4 a5 a6 (fun v hv => a7 v (List.mem_cons_of_mem _ (List.mem_cons_of_mem _ hv))) a8 a9) (fun q => hK _ _ _ _ _ _ _ (hl.2 q) σ H locs ls a1 a2 a3 a4 a5 a6 (fun v hv => a7 v (List.mem_cons_of_mem _ (List.mem_cons_of_mem _ hv))) a8 a9)
theorem hs_icmp_ge (C : hp_B cc G) (hK : ∀ pc lv st h w k n, K pc lv st h w k n → hp_W G pc lv st h w k n) {o : Int} (hd : decode cc pc = .ok (.if_icmp .ge o, 3)) (hi : st_i st fun y r => st_i r fun x r => hp_go pc o fun q => (y ≤ x → K q lv r h w k n) ∧ (¬ y ≤ x → K (pc + 3) lv r h w k n)) : hp_W G pc lv st h w k n := by
  obtain ⟨y, r, rfl, hj⟩ := st_i_of hi
  obtain ⟨x, r, rfl, hk⟩ := st_i_of hj
  obtain ⟨ht, hl⟩ := hp_go_of hk
  intro σ H locs ls a1 a2 a3 a4 a5 a6 a7 a8 a9
  exact lv_icmp_ge C.1 C.2.1 hd ht (fun q => hK _ _ _ _ _ _ _ (hl.1 q) σ H locs ls a1 a2 a3 a4 a5 a6 (fun v hv => a7 v (List.mem_cons_of_mem _ (List.mem_cons_of_mem _ hv))) a8 a9) (fun q => hK _ _ _ _ _ _ _ (hl.2 q) σ H locs ls a1 a2 a3 a4 a5 a6 (fun v hv => a7 v (List.mem_cons_of_mem _ (List.mem_cons_of_mem _ hv))) a8 a9)
theorem hs_icmp_gt (C : hp_B cc G) (hK : ∀ pc lv st h w k n, K pc lv st h w k n → hp_W G pc lv st h w k n) {o : Int} (hd : decode cc pc = .ok (.if_icmp .gt o, 3)) (hi : st_i st fun y r => st_i r fun x r => hp_go pc o fun q => (y < x → K q lv r h w k n) ∧ (¬ y < x → K (pc + 3) lv r h w k n)) : hp_W G pc lv st h w k n := by
  obtain ⟨y, r, rfl, hj⟩ := st_i_of hi
  obtain ⟨x, r, rfl, hk⟩ := st_i_of hj
  obtain ⟨ht, hl⟩ := hp_go_of hk
  intro σ H locs ls a1 a2 a3 a4 a5 a6 a7 a8 a9
  exact lv_icmp_gt C.1 C.2.1 hd ht (fun q => hK _ _ _ _ _ _ _ (hl.1 q) σ H locs ls a1 a2 a3 a4 a5 a6 (fun v hv => a7 v (List.mem_cons_of_mem _ (List.mem_cons_of_mem _ hv))) a8 a9) (fun q => hK _ _ _ _ _ _ _ (hl.2 q) σ H locs ls a1 a2 a3 a4 a5 a6 (fun v hv => a7 v (List.mem_cons_of_mem _ (List.mem_cons_of_mem _ hv))) a8 a9)
theorem hs_icmp_le (C : hp_B cc G) (hK : ∀ pc lv st h w k n, K pc lv st h w k n → hp_W G pc lv st h w k n) {o : Int} (hd : decode cc pc = .ok (.if_icmp .le o, 3)) (hi : st_i st fun y r => st_i r fun x r => hp_go pc o fun q => (x ≤ y → K q lv r h w k n) ∧ (¬ x ≤ y → K (pc + 3) lv r h w k n)) : hp_W G pc lv st h w k n := by
  obtain ⟨y, r, rfl, hj⟩ := st_i_of hi
  obtain ⟨x, r, rfl, hk⟩ := st_i_of hj
  obtain ⟨ht, hl⟩ := hp_go_of hk
  intro σ H locs ls a1 a2 a3 a4 a5 a6 a7 a8 a9
  exact lv_icmp_le C.1 C.2.1 hd ht (fun q => hK _ _ _ _ _ _ _ (hl.1 q) σ H locs ls a1 a2 a3 a4 a5 a6 (fun v hv => a7 v (List.mem_cons_of_mem _ (List.mem_cons_of_mem _ hv))) a8 a9) (fun q => hK _ _ _ _ _ _ _ (hl.2 q) σ H locs ls a1 a2 a3 a4 a5 a6 (fun v hv => a7 v (List.mem_cons_of_mem _ (List.mem_cons_of_mem _ hv))) a8 a9)
theorem hs_goto (C : hp_B cc G) (hK : ∀ pc lv st h w k n, K pc lv st h w k n → hp_W G pc lv st h w k n) {o : Int} (hd : decode cc pc = .ok (.goto o, 3)) (hi : hp_go pc o fun q => K q lv st h w k n) : hp_W G pc lv st h w k n := by
  obtain ⟨ht, hj⟩ := hp_go_of hi
  intro σ H locs ls a1 a2 a3 a4 a5 a6 a7 a8 a9
  exact lv_goto C.1 C.2.1 hd ht (hK _ _ _ _ _ _ _ hj σ H locs ls a1 a2 a3 a4 a5 a6 a7 a8 a9)
end HpI
