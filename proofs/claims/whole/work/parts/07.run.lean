/-! ONE INSTRUCTION as a condition on what lies before it. T: the tables of the method's class: own name; code; fields (pool index, class, field); calls (pool index, kind, method); classes made (pool index, class); exceptions made (pool index, which); ints; longs. -/
abbrev hp_T : Type := String × List (Nat × Instr) × List (Nat × Nat × Nat) × List (Nat × Nat × hp_Y) × List (Nat × Nat) × List (Nat × Nat) × List (Nat × Int32) × List (Nat × Int64)
abbrev t_own (T : hp_T) : String := T.1
abbrev t_code (T : hp_T) : List (Nat × Instr) := T.2.1
abbrev t_fld (T : hp_T) : List (Nat × Nat × Nat) := T.2.2.1
abbrev t_call (T : hp_T) : List (Nat × Nat × hp_Y) := T.2.2.2.1
abbrev t_new (T : hp_T) : List (Nat × Nat) := T.2.2.2.2.1
abbrev t_exn (T : hp_T) : List (Nat × Nat) := T.2.2.2.2.2.1
abbrev t_int (T : hp_T) : List (Nat × Int32) := T.2.2.2.2.2.2.1
abbrev t_long (T : hp_T) : List (Nat × Int64) := T.2.2.2.2.2.2.2
def hp_lk {α : Type} (l : List (Nat × α)) (i : Nat) : Option α := match l with
  | [] => none
  | q :: r => cond (Nat.beq q.1 i) (some q.2) (hp_lk r i)
theorem hp_lk_mem {α : Type} : ∀ (l : List (Nat × α)) (i : Nat) (v : α), hp_lk l i = some v → (i, v) ∈ l
  | [], _, _, h => by cases h
  | q :: l, i, v, h => by
    unfold hp_lk at h
    cases hb : Nat.beq q.1 i with
    | true =>
      rw [hb] at h
      have e : q.1 = i := Nat.eq_of_beq_eq_true hb
      have e2 : q.2 = v := Option.some.inj h
      subst e; subst e2
      exact List.mem_cons_self
    | false =>
      rw [hb] at h
      exact List.mem_cons_of_mem _ (hp_lk_mem l i v h)
def hp_with {α : Type} (o : Option α) (f : α → Prop) : Prop := match o with
  | some x => f x
  | none => False
theorem hp_with_of {α : Type} {o : Option α} {f : α → Prop} (h : hp_with o f) : ∃ x, o = some x ∧ f x := by
  match o, h with
  | some x, h => exact ⟨x, rfl, h⟩
def hp_fin (w0 w : Bool) (P : Prop) : Prop := cond (!w0 || w) P False
/-- the arguments and what lies below them -/
def hp_args (na : Nat) (st : List Value) (acc : List Value) (f : List Value → List Value → Prop) : Prop := match na, st with
  | 0, st => f acc st
  | m + 1, v :: st => hp_args m st (v :: acc) f
  | _ + 1, [] => False
theorem hp_args_of : ∀ (na : Nat) (st acc : List Value) (f : List Value → List Value → Prop), hp_args na st acc f → ∃ as rest, as.length = na ∧ st = as.reverse ++ rest ∧ f (as ++ acc) rest
  | 0, st, acc, f, h => ⟨[], st, rfl, rfl, by unfold hp_args at h; exact h⟩
  | m + 1, [], acc, f, h => by unfold hp_args at h; exact h.elim
  | m + 1, v :: st, acc, f, h => by
    unfold hp_args at h
    obtain ⟨as, rest, h1, h2, h3⟩ := hp_args_of m st (v :: acc) f h
    exact ⟨as ++ [v], rest, by simp [h1], by simp [h2], by simpa using h3⟩
def hp_nil {α : Type} (l : List α) : Bool := match l with
  | [] => true
  | _ => false
/-- a call of Y with these arguments -/
def hp_ic (l : Launch) (Y0 Y : hp_Y) (w0 : Bool) (dk0 dn0 : Nat) (Q : hp_R → hp_H → Prop) (K : hp_K) (pc : Nat) (lv : hp_L) (av rest : List Value) (h : hp_H) (w : Bool) (k n : Nat) : Prop :=
  cond (Nat.ble (y_fr Y + 1) (y_fr Y0) && Nat.ble ((rest.map fun v => v.category).sum + (y_mx Y + 11) + y_lo Y) (y_lo Y0) && hp_nil (y_hd Y0))
    (∃ (wy : Bool) (dk dn : Nat) (Qy : hp_R → hp_H → Prop), hp_M l Y av h wy dk dn Qy ∧ k + dk ≤ dk0 ∧ n + dn ≤ dn0 ∧ ∀ r h', Qy r h' → match r with
      | .inl v => K (pc + 3) lv (v.toList ++ rest) h' (w && wy) (k + dk) (n + dn)
      | .inr ci => hp_fin w0 (w && wy) (Q (.inr ci) h')) False

/-- a switch: where each number goes -/
def hp_sw (x : Int32) (i : Int) (os : List Int) (f : Int → Prop) : Prop := match os with
  | [] => True
  | o :: r => (x.toInt = i → f o) ∧ hp_sw x (i + 1) r f
theorem hp_sw_get (x : Int32) (f : Int → Prop) : ∀ (os : List Int) (i : Int) (j : Nat) (o : Int), hp_sw x i os f → os[j]? = some o → x.toInt = i + j → f o
  | [], i, j, o, _, h, _ => by cases h
  | p :: r, i, 0, o, hs, h, e => by
    cases h
    exact hs.1 (by simpa using e)
  | p :: r, i, j + 1, o, hs, h, e => hp_sw_get x f r (i + 1) j o hs.2 (by simpa using h) (by rw [e]; omega)
section HpS
variable {G : hp_G} {cc : ByteArray} {pc : Nat} {lv : hp_L} {st : List Value} {h : hp_H} {w : Bool} {k n : Nat} {K : hp_K}
theorem hs_ldc (C : hp_B cc G) (hK : ∀ pc lv st h w k n, K pc lv st h w k n → hp_W G pc lv st h w k n) {own : String} (O : hp_O own G) {idx : Nat} {v : Int32} (hc : Jvm.Cond.constant own idx v ∈ hp_Ts) (hd : decode cc pc = .ok (.ldc idx, 2)) (hi : K (pc + 2) lv (.int v :: st) h w k n) : hp_W G pc lv st h w k n := by
  intro σ H locs ls a1 a2 a3 a4 a5 a6 a7 a8 a9
  exact lv_ldc C.1 C.2.1 O.2.1 (O.1 _ hc) hd (hK _ _ _ _ _ _ _ hi σ H locs ls a1 a2 a3 a4 a5 a6 (fun v hv => by rcases List.mem_cons.mp hv with e | e; (rw [e]; trivial); exact a7 v e) a8 a9)
theorem hs_ldc2 (C : hp_B cc G) (hK : ∀ pc lv st h w k n, K pc lv st h w k n → hp_W G pc lv st h w k n) {own : String} (O : hp_O own G) {idx : Nat} {v : Int64} (hc : Jvm.Cond.constantLong own idx v ∈ hp_Ts) (hd : decode cc pc = .ok (.ldc2_w idx, 3)) (hi : K (pc + 3) lv (.long v :: st) h w k n) : hp_W G pc lv st h w k n := by
  intro σ H locs ls a1 a2 a3 a4 a5 a6 a7 a8 a9
  exact lv_ldc2 C.1 C.2.1 O.2.1 (O.1 _ hc) hd (hK _ _ _ _ _ _ _ hi σ H locs ls a1 a2 a3 a4 a5 a6 (fun v hv => by rcases List.mem_cons.mp hv with e | e; (rw [e]; trivial); exact a7 v e) a8 a9)
theorem hs_tableswitch (C : hp_B cc G) (hK : ∀ pc lv st h w k n, K pc lv st h w k n → hp_W G pc lv st h w k n) {d lo hi : Int} {os : Array Int} {len : Nat} (hd : decode cc pc = .ok (.tableswitch d lo hi os, len))
    (h0 : cond (decide ((os.size : Int) = hi - lo + 1)) (st_i st fun x r => ((x.toInt < lo ∨ hi < x.toInt) → hp_go pc d fun q => K q lv r h w k n) ∧ hp_sw x lo os.toList fun o => hp_go pc o fun q => K q lv r h w k n) False) : hp_W G pc lv st h w k n := by
  cases he : decide ((os.size : Int) = hi - lo + 1) with
  | false => rw [he] at h0; exact False.elim h0
  | true =>
    rw [he] at h0
    have hsz := of_decide_eq_true he
    obtain ⟨x, r, rfl, h1, h2⟩ := st_i_of h0
    intro σ H locs ls a1 a2 a3 a4 a5 a6 a7 a8 a9
    by_cases hx : x.toInt < lo ∨ hi < x.toInt
    · obtain ⟨ht, h3⟩ := hp_go_of (h1 hx)
      exact lv_tableOut C.1 C.2.1 hd hx ht (hK _ _ _ _ _ _ _ h3 σ H locs ls a1 a2 a3 a4 a5 a6 (fun v hv => a7 v (List.mem_cons_of_mem _ hv)) a8 a9)
    · have hlt : (x.toInt - lo).toNat < os.toList.length := by
        rw [Array.length_toList]
        omega
      have ho := List.getElem?_eq_getElem hlt
      obtain ⟨ht, h3⟩ := hp_go_of (hp_sw_get x _ _ _ _ _ h2 ho (by omega))
      exact lv_tableIn C.1 C.2.1 hd (by omega) (by omega) (by rw [← Array.getElem?_toList]; exact ho) ht (hK _ _ _ _ _ _ _ h3 σ H locs ls a1 a2 a3 a4 a5 a6 (fun v hv => a7 v (List.mem_cons_of_mem _ hv)) a8 a9)
end HpS
/-- an array class that can be made -/
def hp_aok (ty : FieldType) : Prop := (ty = .long ∨ ty = .int ∨ ty = .boolean ∨ ty = .byte) ∧ Jvm.Cond.arrayClass ty ∈ hp_Ts
def hp_i (l : Launch) (T : hp_T) (Y : hp_Y) (w0 : Bool) (dk dn : Nat) (Q : hp_R → hp_H → Prop) (K : hp_K) (ins : Instr) (pc : Nat) (lv : hp_L) (st : List Value) (h : hp_H) (w : Bool) (k n : Nat) : Prop := match ins with
  | .iconst i => cond (decide (Int32.ofInt i = hp_c i)) (K (pc + 1) lv (.int (hp_c i) :: st) h w k n) False
  | .bipush i => cond (decide ((Int8.ofInt i).toInt32 = hp_c i)) (K (pc + 2) lv (.int (hp_c i) :: st) h w k n) False
  | .sipush i => cond (decide ((Int16.ofInt i).toInt32 = hp_c i)) (K (pc + 3) lv (.int (hp_c i) :: st) h w k n) False
  | .lconst i => K (pc + 1) lv (.long (Int64.ofNat i.val) :: st) h w k n
  | .aconst_null => K (pc + 1) lv (.null :: st) h w k n
  | .iload i => hl_iload lv i fun v => K (pc + 2) lv (v :: st) h w k n
  | .iload_n i => hl_iload_n lv i.val fun v => K (pc + 1) lv (v :: st) h w k n
  | .lload i => hl_lload lv i fun v => K (pc + 2) lv (v :: st) h w k n
  | .lload_n i => hl_lload_n lv i.val fun v => K (pc + 1) lv (v :: st) h w k n
  | .aload i => hl_aload lv i fun v => K (pc + 2) lv (v :: st) h w k n
  | .aload_n i => hl_aload_n lv i.val fun v => K (pc + 1) lv (v :: st) h w k n
  | .istore i => cond (Nat.blt (i) (y_mx Y)) (st_i st fun x r => K (pc + 2) (hp_set lv i (.int x)) r h w k n) False
  | .istore_n i => cond (Nat.blt (i.val) (y_mx Y)) (st_i st fun x r => K (pc + 1) (hp_set lv i.val (.int x)) r h w k n) False
  | .lstore i => cond (Nat.blt (i + 1) (y_mx Y)) (st_l st fun x r => K (pc + 2) (hp_set lv i (.long x)) r h w k n) False
  | .lstore_n i => cond (Nat.blt (i.val + 1) (y_mx Y)) (st_l st fun x r => K (pc + 1) (hp_set lv i.val (.long x)) r h w k n) False
  | .astore i => cond (Nat.blt (i) (y_mx Y)) (st_a st fun x r => K (pc + 2) (hp_set lv i (.ref x)) r h w k n) False
  | .astore_n i => cond (Nat.blt (i.val) (y_mx Y)) (st_a st fun x r => K (pc + 1) (hp_set lv i.val (.ref x)) r h w k n) False
  | .iinc i c => cond (Nat.blt i (y_mx Y) && decide (Int32.ofInt c = hp_c c)) (match hp_get lv i with | some (.int x) => K (pc + 3) (hp_set lv i (.int (x + hp_c c))) st h w k n | _ => False) False
  | .iadd => st_i st fun y r => st_i r fun x r => K (pc + 1) lv (.int (x + y) :: r) h w k n
  | .isub => st_i st fun y r => st_i r fun x r => K (pc + 1) lv (.int (x - y) :: r) h w k n
  | .imul => st_i st fun y r => st_i r fun x r => K (pc + 1) lv (.int (x * y) :: r) h w k n
  | .iand => st_i st fun y r => st_i r fun x r => K (pc + 1) lv (.int (x &&& y) :: r) h w k n
  | .ior => st_i st fun y r => st_i r fun x r => K (pc + 1) lv (.int (x ||| y) :: r) h w k n
  | .ixor => st_i st fun y r => st_i r fun x r => K (pc + 1) lv (.int (x ^^^ y) :: r) h w k n
  | .ishl => st_i st fun y r => st_i r fun x r => K (pc + 1) lv (.int (x <<< (y &&& 31)) :: r) h w k n
  | .ishr => st_i st fun y r => st_i r fun x r => K (pc + 1) lv (.int (x >>> (y &&& 31)) :: r) h w k n
  | .ladd => st_l st fun y r => st_l r fun x r => K (pc + 1) lv (.long (x + y) :: r) h w k n
  | .lsub => st_l st fun y r => st_l r fun x r => K (pc + 1) lv (.long (x - y) :: r) h w k n
  | .lmul => st_l st fun y r => st_l r fun x r => K (pc + 1) lv (.long (x * y) :: r) h w k n
  | .land => st_l st fun y r => st_l r fun x r => K (pc + 1) lv (.long (x &&& y) :: r) h w k n
  | .lor => st_l st fun y r => st_l r fun x r => K (pc + 1) lv (.long (x ||| y) :: r) h w k n
  | .lxor => st_l st fun y r => st_l r fun x r => K (pc + 1) lv (.long (x ^^^ y) :: r) h w k n
  | .idiv => st_i st fun y r => st_i r fun x r => ¬ y = 0 ∧ K (pc + 1) lv (.int (x / y) :: r) h w k n
  | .irem => st_i st fun y r => st_i r fun x r => ¬ y = 0 ∧ K (pc + 1) lv (.int (x - x / y * y) :: r) h w k n
  | .iushr => st_i st fun y r => st_i r fun x r => K (pc + 1) lv (.int ((x.toUInt32 >>> (y.toUInt32 &&& Int32.toUInt32 31)).toInt32) :: r) h w k n
  | .lushr => st_i st fun y r => st_l r fun x r => K (pc + 1) lv (.long ((x.toUInt64 >>> (y.toInt64.toUInt64 &&& Int64.toUInt64 63)).toInt64) :: r) h w k n
  | .lshl => st_i st fun y r => st_l r fun x r => K (pc + 1) lv (.long (x <<< (y.toInt64 &&& 63)) :: r) h w k n
  | .lshr => st_i st fun y r => st_l r fun x r => K (pc + 1) lv (.long (x >>> (y.toInt64 &&& 63)) :: r) h w k n
  | .lcmp => st_l st fun y r => st_l r fun x r => K (pc + 1) lv (.int (lg_cmp x y) :: r) h w k n
  | .ineg => st_i st fun x r => K (pc + 1) lv (.int (-x) :: r) h w k n
  | .lneg => st_l st fun x r => K (pc + 1) lv (.long (-x) :: r) h w k n
  | .i2l => st_i st fun x r => K (pc + 1) lv (.long (x.toInt64) :: r) h w k n
  | .l2i => st_l st fun x r => K (pc + 1) lv (.int (x.toInt32) :: r) h w k n
  | .dup => st_v st fun x r => cond (Nat.beq x.category 1) (K (pc + 1) lv (x :: x :: r) h w k n) False
  | .pop => st_v st fun x r => cond (Nat.beq x.category 1) (K (pc + 1) lv r h w k n) False
  | .dup2 => st_v st fun x r => cond (Nat.beq x.category 2) (K (pc + 1) lv (x :: x :: r) h w k n) (st_v r fun y r => cond (Nat.beq x.category 1 && Nat.beq y.category 1) (K (pc + 1) lv (x :: y :: x :: y :: r) h w k n) False)
  | .dup_x1 => st_v st fun x r => st_v r fun y r => cond (Nat.beq x.category 1 && Nat.beq y.category 1) (K (pc + 1) lv (x :: y :: x :: r) h w k n) False
  | .ifCond .eq o => st_i st fun x r => hp_go pc o fun q => (x = 0 → K q lv r h w k n) ∧ (¬ x = 0 → K (pc + 3) lv r h w k n)
  | .ifCond .ne o => st_i st fun x r => hp_go pc o fun q => (¬ x = 0 → K q lv r h w k n) ∧ (x = 0 → K (pc + 3) lv r h w k n)
  | .ifCond .lt o => st_i st fun x r => hp_go pc o fun q => (x < 0 → K q lv r h w k n) ∧ (¬ x < 0 → K (pc + 3) lv r h w k n)
  | .ifCond .ge o => st_i st fun x r => hp_go pc o fun q => (0 ≤ x → K q lv r h w k n) ∧ (¬ 0 ≤ x → K (pc + 3) lv r h w k n)
  | .ifCond .gt o => st_i st fun x r => hp_go pc o fun q => (0 < x → K q lv r h w k n) ∧ (¬ 0 < x → K (pc + 3) lv r h w k n)
  | .ifCond .le o => st_i st fun x r => hp_go pc o fun q => (x ≤ 0 → K q lv r h w k n) ∧ (¬ x ≤ 0 → K (pc + 3) lv r h w k n)
  | .if_icmp .eq o => st_i st fun y r => st_i r fun x r => hp_go pc o fun q => (x = y → K q lv r h w k n) ∧ (¬ x = y → K (pc + 3) lv r h w k n)
  | .if_icmp .ne o => st_i st fun y r => st_i r fun x r => hp_go pc o fun q => (¬ x = y → K q lv r h w k n) ∧ (x = y → K (pc + 3) lv r h w k n)
  | .if_icmp .lt o => st_i st fun y r => st_i r fun x r => hp_go pc o fun q => (x < y → K q lv r h w k n) ∧ (¬ x < y → K (pc + 3) lv r h w k n)
  | .if_icmp .ge o => st_i st fun y r => st_i r fun x r => hp_go pc o fun q => (y ≤ x → K q lv r h w k n) ∧ (¬ y ≤ x → K (pc + 3) lv r h w k n)
  | .if_icmp .gt o => st_i st fun y r => st_i r fun x r => hp_go pc o fun q => (y < x → K q lv r h w k n) ∧ (¬ y < x → K (pc + 3) lv r h w k n)
  | .if_icmp .le o => st_i st fun y r => st_i r fun x r => hp_go pc o fun q => (x ≤ y → K q lv r h w k n) ∧ (¬ x ≤ y → K (pc + 3) lv r h w k n)
  | .goto o => hp_go pc o fun q => K q lv st h w k n
  | .getfield i => hp_with (hp_lk (t_fld T) i) fun f => st_a st fun a r => ∃ fs, h[a]? = some (.inr (f.1, fs)) ∧ K (pc + 3) lv (vp_V fs f.2 :: r) h w k n
  | .putfield i => hp_with (hp_lk (t_fld T) i) fun f => hp_with (classes[f.1]?) fun r0 => ((r0.2.1 f.2).2.2.2 = false ∨ ((r0.2.1 f.2).2.2.2 = true ∧ (y_nm Y).name = "<init>" ∧ (r0.2.1 f.2).1 = t_own T)) ∧ st_v st fun v r => st_a r fun a r => ∃ fs, h[a]? = some (.inr (f.1, fs)) ∧ f.2 < fs.length ∧ narrow (hp_fty f.1 f.2) v = v ∧ fits (hp_fty f.1 f.2) v = true ∧ K (pc + 3) lv r (h.set a (.inr (f.1, fs.set f.2 v))) false k n
  | .iaload => st_i st fun i r => st_a r fun a r => ∃ (ty : FieldType) (N : Nat) (f : Nat → Int32), (ty = .int ∨ ty = .float) ∧ h[a]? = some (.inl (ty, N, .inl f)) ∧ vp_in i N ∧ K (pc + 1) lv (.int (f i.toNatClampNeg) :: r) h w k n
  | .laload => st_i st fun i r => st_a r fun a r => ∃ (N : Nat) (f : Nat → Int64), h[a]? = some (.inl (.long, N, .inr (.inl f))) ∧ vp_in i N ∧ K (pc + 1) lv (.long (f i.toNatClampNeg) :: r) h w k n
  | .baload => st_i st fun i r => st_a r fun a r => ∃ (N : Nat) (f : Nat → Int32), h[a]? = some (.inl (.boolean, N, .inl f)) ∧ vp_in i N ∧ K (pc + 1) lv (.int (f i.toNatClampNeg) :: r) h w k n
  | .aaload => st_i st fun i r => st_a r fun a r => ∃ (t : FieldType) (N : Nat) (f : Nat → Option Nat), h[a]? = some (.inl (.array t, N, .inr (.inr (.inr (.inr f))))) ∧ vp_in i N ∧ K (pc + 1) lv (va_rf (f i.toNatClampNeg) :: r) h w k n
  | .iastore => st_i st fun x r => st_i r fun i r => st_a r fun a r => ∃ (N : Nat) (f : Nat → Int32), h[a]? = some (.inl (.int, N, .inl f)) ∧ vp_in i N ∧ K (pc + 1) lv r (h.set a (.inl (.int, N, .inl (upd f i.toNatClampNeg x)))) false k n
  | .lastore => st_l st fun x r => st_i r fun i r => st_a r fun a r => ∃ (N : Nat) (f : Nat → Int64), h[a]? = some (.inl (.long, N, .inr (.inl f))) ∧ vp_in i N ∧ K (pc + 1) lv r (h.set a (.inl (.long, N, .inr (.inl (vp_updL f i.toNatClampNeg x))))) false k n
  | .bastore => st_i st fun x r => st_i r fun i r => st_a r fun a r => ∃ (N : Nat) (f : Nat → Int32), h[a]? = some (.inl (.boolean, N, .inl f)) ∧ vp_in i N ∧ narrow .boolean (.int x) = .int x ∧ K (pc + 1) lv r (h.set a (.inl (.boolean, N, .inl (upd f i.toNatClampNeg x)))) false k n
  | .arraylength => st_a st fun a r => ∃ (ty : FieldType) (N : Nat) (x : hp_X), h[a]? = some (.inl (ty, N, x)) ∧ K (pc + 1) lv (.int (Int32.ofNat N) :: r) h w k n
  | .newarray t => st_i st fun x r => ∃ N, x.toNatClampNeg = N ∧ ¬ x < 0 ∧ N * componentBytes (newarray.typeOf t) ≤ 536870912 ∧ k + 1 ≤ dk ∧ n + N ≤ dn ∧ hp_aok (newarray.typeOf t) ∧ K (pc + 2) lv (.ref h.length :: r) (h ++ [.inl (newarray.typeOf t, N, hp_zero (newarray.typeOf t))]) w (k + 1) (n + N)
  | .ldc i => hp_with (hp_lk (t_int T) i) fun v => K (pc + 2) lv (.int v :: st) h w k n
  | .ldc2_w i => hp_with (hp_lk (t_long T) i) fun v => K (pc + 3) lv (.long v :: st) h w k n
  | .tableswitch d lo up os => cond (decide ((os.size : Int) = up - lo + 1)) (st_i st fun x r => ((x.toInt < lo ∨ up < x.toInt) → hp_go pc d fun q => K q lv r h w k n) ∧ hp_sw x lo os.toList fun o => hp_go pc o fun q => K q lv r h w k n) False
  | .new i => hp_with (hp_lk (t_new T) i) fun ci => hp_with (classes[ci]?) fun r0 => k + 1 ≤ dk ∧ n + r0.2.2 ≤ dn ∧ K (pc + 3) lv (.ref h.length :: st) (h ++ [.inr (ci, hp_new ci)]) w (k + 1) (n + r0.2.2)
  | .invokestatic i => hp_with (hp_lk (t_call T) i) fun q => cond (Nat.ble q.1 1) (hp_args (y_na q.2) st [] fun av rest => hp_ic l Y q.2 w0 dk dn Q K pc lv av rest h w k n) False
  | .invokevirtual i => hp_with (hp_lk (t_call T) i) fun q => cond (Nat.beq q.1 2 || Nat.beq q.1 3) (hp_args (y_na q.2) st [] fun av r => st_a r fun a rest => (∃ ci fs, h[a]? = some (.inr (ci, fs)) ∧ (classes[ci]?).map (fun c => c.1) = some (y_nm q.2).cls) ∧ hp_ic l Y q.2 w0 dk dn Q K pc lv (.ref a :: av) rest h w k n) False
  | .invokespecial i => hp_with (hp_lk (t_call T) i) fun q => cond (Nat.beq q.1 6) (cond (Nat.ble 1 (y_fr Y)) (st_a st fun a r => cond (Nat.ble ((r.map fun v => v.category).sum + 12) (y_lo Y)) (K (pc + 3) lv r h w k n) False) False) (cond (Nat.beq q.1 4 || Nat.beq q.1 5) (hp_args (y_na q.2) st [] fun av r => st_a r fun a rest => hp_ic l Y q.2 w0 dk dn Q K pc lv (.ref a :: av) rest h w k n) False)
  | .ireturn => st_i st fun x r => hp_with (y_rt Y) fun ty => r = [] ∧ narrow ty (.int x) = .int x ∧ hp_fin w0 w (Q (.inl (some (.int x))) h)
  | .lreturn => st_l st fun x r => r = [] ∧ y_rt Y = some .long ∧ hp_fin w0 w (Q (.inl (some (.long x))) h)
  | .return_ => st = [] ∧ y_rt Y = none ∧ hp_fin w0 w (Q (.inl none) h)
  | .areturn => st_a st fun x r => r = [] ∧ (∃ t, y_rt Y = some (.array t)) ∧ hp_fin w0 w (Q (.inl (some (.ref x))) h)
  | _ => False
/-- what stays the same while a method's body runs -/
def hp_ctx (T : hp_T) (Y : hp_Y) (l : Launch) (w0 : Bool) (dk dn : Nat) (Q : hp_R → hp_H → Prop) (G : hp_G) : Prop :=
  hp_B (y_cc Y) G ∧ hp_O (t_own T) G ∧ g_n G = y_mx Y ∧ g_R G = { frames := y_fr Y, cells := dk, slots := dn, locals := y_lo Y } ∧ g_l G = l ∧ g_w G = w0 ∧ g_Q G = Q ∧ (g_me G).sig.returnType = y_rt Y ∧ (g_me G).locks = false ∧ (g_me G).name = (y_nm Y).name ∧
    (g_c G).exceptionTable.toList.map (fun h => (h.startPc, h.endPc, h.handlerPc, h.catchType)) = y_hd Y ∧ hp_noT l ∧ hp_thr (g_z G) (g_s G)
def hp_len (i : Instr) : Nat := match i with
  | .tableswitch .. => 0
  | .lookupswitch .. => 0
  | .bipush _ | .iload _ | .lload _ | .aload _ | .istore _ | .lstore _ | .astore _ | .newarray _ | .ldc _ => 2
  | .sipush _ | .iinc .. | .ifCond .. | .if_icmp .. | .goto _ | .getfield _ | .putfield _ | .new _ | .invokestatic _ | .invokespecial _ | .invokevirtual _ | .ldc2_w _ | .anewarray _ | .ldc_w _ | .ifnull _ | .ifnonnull _ | .getstatic _ => 3
  | .multianewarray .. => 4
  | _ => 1
/-- what a call needs of the words, by its kind: static, static of a nest mate, virtual, virtual of a nest mate, constructor, constructor of a nest mate, Object's -/
def hp_vcall (own : String) (i kd : Nat) (Y : hp_Y) : Prop := match kd with
  | 0 => hp_cd Y ∈ hp_Ts ∧ Jvm.Cond.methodLink own i (y_nm Y) ∈ hp_Ts ∧ Jvm.Cond.static (y_nm Y) ∈ hp_Ts ∧ Jvm.Cond.initialized (y_nm Y).cls ∈ hp_Ts ∧ hp_notMH Y ∧ hp_np Y
  | 1 => ∃ host, hp_cd Y ∈ hp_Ts ∧ Jvm.Cond.methodLinkNest own i (y_nm Y) host ∈ hp_Ts ∧ Jvm.Cond.static (y_nm Y) ∈ hp_Ts ∧ Jvm.Cond.initialized (y_nm Y).cls ∈ hp_Ts ∧ hp_notMH Y ∧ hp_np Y
  | 2 => hp_cd Y ∈ hp_Ts ∧ Jvm.Cond.methodLink own i (y_nm Y) ∈ hp_Ts ∧ Jvm.Cond.instanceMethod (y_nm Y) ∈ hp_Ts ∧ Jvm.Cond.selects (y_nm Y).cls (y_nm Y) (y_nm Y) ∈ hp_Ts ∧ Jvm.Cond.initialized (y_nm Y).cls ∈ hp_Ts ∧ hp_notMH Y ∧ hp_np Y
  | 3 => ∃ host, hp_cd Y ∈ hp_Ts ∧ Jvm.Cond.methodLinkNest own i (y_nm Y) host ∈ hp_Ts ∧ Jvm.Cond.instanceMethod (y_nm Y) ∈ hp_Ts ∧ Jvm.Cond.selects (y_nm Y).cls (y_nm Y) (y_nm Y) ∈ hp_Ts ∧ Jvm.Cond.initialized (y_nm Y).cls ∈ hp_Ts ∧ hp_notMH Y ∧ hp_np Y
  | 4 => hp_cd Y ∈ hp_Ts ∧ y_hd Y = [] ∧ y_rt Y = none ∧ Jvm.Cond.methodLink own i (y_nm Y) ∈ hp_Ts ∧ Jvm.Cond.instanceMethod (y_nm Y) ∈ hp_Ts ∧ (y_nm Y).name = "<init>" ∧ Jvm.Cond.initialized (y_nm Y).cls ∈ hp_Ts ∧ hp_notMH Y ∧ hp_np Y
  | 5 => ∃ host, hp_cd Y ∈ hp_Ts ∧ y_hd Y = [] ∧ y_rt Y = none ∧ Jvm.Cond.methodLinkNest own i (y_nm Y) host ∈ hp_Ts ∧ Jvm.Cond.instanceMethod (y_nm Y) ∈ hp_Ts ∧ (y_nm Y).name = "<init>" ∧ Jvm.Cond.initialized (y_nm Y).cls ∈ hp_Ts ∧ hp_notMH Y ∧ hp_np Y
  | 6 => Jvm.Cond.methodLink own i Lib.objectInit ∈ hp_Ts ∧ Jvm.Cond.instanceMethod Lib.objectInit ∈ hp_Ts ∧ Jvm.Cond.code Lib.objectInit ⟨#[0xb1]⟩ 1 none ∈ hp_Ts
  | _ => False
theorem hp_recv {own : String} {G : hp_G} (O : hp_O own G) {σ : List Nat} {h : hp_H} {H : Heap} (a1 : hp_rep (g_D G) (g_z G) (g_s G) σ h H) {a ci : Nat} {fs : List Value} (ha : h[a]? = some (.inr (ci, fs))) {nm : String} (hcn : (classes[ci]?).map (fun c => c.1) = some nm) : ∃ cell : Cell, H[σ.getD a 0]? = some cell ∧ cell.vm.isStatics = false ∧ (g_s G).vm.findClass nm = some cell.cls := by
  obtain ⟨r, cell, c0, c1, c2, c3, c4⟩ := a1.2.1 a _ ha
  rw [c0] at hcn
  cases hcn
  exact ⟨cell, c1, by rw [c3]; rfl, by rw [c2]; exact (O.2.2.1.1 ci _ c0).2.1⟩
theorem hs_objInit {G : hp_G} {cc : ByteArray} {pc : Nat} {lv : hp_L} {st : List Value} {h : hp_H} {w : Bool} {k n : Nat} {K : hp_K} (C : hp_B cc G) (hK : ∀ pc lv st h w k n, K pc lv st h w k n → hp_W G pc lv st h w k n) {own : String} (O : hp_O own G) {idx : Nat} (v1 : Jvm.Cond.methodLink own idx Lib.objectInit ∈ hp_Ts) (v2 : Jvm.Cond.instanceMethod Lib.objectInit ∈ hp_Ts) (v3 : Jvm.Cond.code Lib.objectInit ⟨#[0xb1]⟩ 1 none ∈ hp_Ts)
    (hd : decode cc pc = .ok (.invokespecial idx, 3)) {a : Nat} {r : List Value} (hfr : 1 ≤ (g_R G).frames) (hlo : (r.map fun v => v.category).sum + 12 ≤ (g_R G).locals) (hst : st = .ref a :: r) (hi : K (pc + 3) lv r h w k n) : hp_W G pc lv st h w k n := by
  subst hst
  intro σ H locs ls a1 a2 a3 a4 a5 a6 a7 a8 a9
  obtain ⟨hts, hown, -, -⟩ := O
  have hcat : ((r.map (hp_cv σ)).map fun v => v.category) = r.map fun v => v.category := by
    rw [List.map_map]
    exact List.map_congr_left fun v _ => hp_cv_cat σ v
  exact W.objInit C.1 C.2.1 hown (hts _ v1) (hts _ v2) (hts _ v3) rfl (a6.1.trans C.2.2.symm) rfl hd hfr (by show 2 * 0 + ((r.map (hp_cv σ)).map fun v => v.category).sum + 12 ≤ _; rw [hcat]; omega)
    (hK _ _ _ _ _ _ _ hi σ H locs ls a1 a2 a3 a4 a5 a6 (fun v hv => a7 v (List.mem_cons_of_mem _ hv)) a8 a9)
/-- hp_ic is enough for a call -/
theorem hp_call_ic {G : hp_G} {l : Launch} {Y0 : hp_Y} {w0 : Bool} {dk0 dn0 : Nat} {Q : hp_R → hp_H → Prop} {cc : ByteArray} {pc : Nat} {lv : hp_L} {st : List Value} {h : hp_H} {w : Bool} {k n : Nat} {K : hp_K} (C : hp_B cc G) (hK : ∀ pc lv st h w k n, K pc lv st h w k n → hp_W G pc lv st h w k n) {own : String} (O : hp_O own G) (hnt : hp_noT l) (hth : hp_thr (g_z G) (g_s G)) {Y : hp_Y} {av rest : List Value}
    {ins : Instr} (hd : decode cc pc = .ok (ins, 3)) (hcd : hp_cd Y ∈ hp_Ts) (hini : Jvm.Cond.initialized (y_nm Y).cls ∈ hp_Ts) (hR : g_R G = { frames := y_fr Y0, cells := dk0, slots := dn0, locals := y_lo Y0 }) (hl : g_l G = l) (hw : g_w G = w0) (hQ : g_Q G = Q) (hlk : (g_me G).locks = false)
    (hex : (g_c G).exceptionTable.toList.map (fun h => (h.startPc, h.endPc, h.handlerPc, h.catchType)) = y_hd Y0) (hst : ∀ v ∈ rest, v ∈ st) (hav : ∀ v ∈ av, v ∈ st)
    (hinv : ∀ (σ : List Nat) (H : Heap) (ls : Array Slot), hp_rep (g_D G) (g_z G) (g_s G) σ h H → ls.size = g_n G → ∃ mk, (g_s G).methodNamed? (y_nm Y) = some mk ∧ hp_inv G pc ls H (st.map (hp_cv σ)) (rest.map (hp_cv σ)) mk (av.map (hp_cv σ)))
    (hi : hp_ic l Y0 Y w0 dk0 dn0 Q K pc lv av rest h w k n) : hp_W G pc lv st h w k n := by
  unfold hp_ic at hi
  cases hb : (Nat.ble (y_fr Y + 1) (y_fr Y0) && Nat.ble ((rest.map fun v => v.category).sum + (y_mx Y + 11) + y_lo Y) (y_lo Y0) && hp_nil (y_hd Y0)) with
  | false => rw [hb] at hi; exact False.elim hi
  | true =>
    rw [hb] at hi
    rw [Bool.and_eq_true, Bool.and_eq_true] at hb
    obtain ⟨wy, dk, dn, Qy, hM, hc1, hc2, hi⟩ := hi
    subst hl
    have hno : y_hd Y0 = [] := by
      have := hb.2
      cases hy : y_hd Y0 with
      | nil => rfl
      | cons q r => rw [hy] at this; cases this
    refine hp_call C hK O hnt hth hM hd hcd hini (by rw [hR]; exact Nat.le_of_ble_eq_true hb.1.1) (by rw [hR]; exact Nat.le_of_ble_eq_true hb.1.2) (by rw [hR]; exact hc1) (by rw [hR]; exact hc2) hst hav hinv (fun r h' hq => ?_)
    have h2 := hi r h' hq
    match r, h2 with
    | .inl v, h2 => exact h2
    | .inr ci, h2 =>
      refine hp_catch_out hlk (fun x hx => ?_) (by unfold hp_end; rw [hw, hQ]; exact h2)
      rw [hno] at hex
      rw [List.map_eq_nil_iff.mp hex] at hx
      cases hx
/-- the tables say what is so -/
def hp_val (T : hp_T) (Y : hp_Y) : Prop :=
  (∀ q ∈ t_code T, ∃ len, decode (y_cc Y) q.1 = .ok (q.2, len) ∧ (hp_len q.2 = 0 ∨ len = hp_len q.2)) ∧
  (∀ q ∈ t_fld T, ∃ r0 : vw_C, classes[q.2.1]? = some r0 ∧ q.2.2 < r0.2.2 ∧ Jvm.Cond.fieldLink (t_own T) q.1 (r0.2.1 q.2.2).1 (r0.2.1 q.2.2).2.1 (r0.2.1 q.2.2).2.2.1 ∈ hp_Ts) ∧
  (∀ q ∈ t_call T, hp_vcall (t_own T) q.1 q.2.1 q.2.2) ∧ (∀ q ∈ t_int T, Jvm.Cond.constant (t_own T) q.1 q.2 ∈ hp_Ts) ∧ (∀ q ∈ t_long T, Jvm.Cond.constantLong (t_own T) q.1 q.2 ∈ hp_Ts) ∧
  (∀ q ∈ t_new T, ∃ r0 : vw_C, classes[q.2]? = some r0 ∧ Jvm.Cond.classLink (t_own T) q.1 r0.1 ∈ hp_Ts)
set_option maxHeartbeats 4000000 in
theorem hp_i_sound {T : hp_T} {Y : hp_Y} {l : Launch} {w0 : Bool} {dk dn : Nat} {Q : hp_R → hp_H → Prop} {G : hp_G} (hco : hp_clsok) (V : hp_val T Y) (C : hp_ctx T Y l w0 dk dn Q G) {K : hp_K} (hK : ∀ pc lv st h w k n, K pc lv st h w k n → hp_W G pc lv st h w k n)
    {ins : Instr} {pc : Nat} {lv : hp_L} {st : List Value} {h : hp_H} {w : Bool} {k n : Nat} (hc : hp_lk (t_code T) pc = some ins) (hi : hp_i l T Y w0 dk dn Q K ins pc lv st h w k n) : hp_W G pc lv st h w k n := by
  obtain ⟨B, O, hn, hR, hl, hw, hQ, hrt, hlk, hnm, hex, hnt, hth⟩ := C
  obtain ⟨len, hdec, hlen⟩ := V.1 _ (hp_lk_mem _ _ _ hc)
  have hd : ∀ j, hp_len ins = j + 1 → decode (y_cc Y) pc = .ok (ins, j + 1) := fun j hj => by
    rcases hlen with e | e
    · rw [e] at hj; cases hj
    · rw [← hj, ← e]; exact hdec
  cases ins
  case iconst i =>
    exact hs_iconst B hK (hd _ rfl) hi
  case bipush i =>
    exact hs_bipush B hK (hd _ rfl) hi
  case sipush i =>
    exact hs_sipush B hK (hd _ rfl) hi
  case lconst i =>
    exact hs_lconst B hK (hd _ rfl) hi
  case aconst_null =>
    exact hs_aconst_null B hK (hd _ rfl) hi
  case iload i =>
    exact hs_iload B hK (hd _ rfl) hi
  case iload_n i =>
    exact hs_iload_n B hK (hd _ rfl) hi
  case lload i =>
    exact hs_lload B hK (hd _ rfl) hi
  case lload_n i =>
    exact hs_lload_n B hK (hd _ rfl) hi
  case aload i =>
    exact hs_aload B hK (hd _ rfl) hi
  case aload_n i =>
    exact hs_aload_n B hK (hd _ rfl) hi
  case istore i =>
    exact hs_istore B hK (hd _ rfl) (by rw [hn]; exact hi)
  case istore_n i =>
    exact hs_istore_n B hK (hd _ rfl) (by rw [hn]; exact hi)
  case lstore i =>
    exact hs_lstore B hK (hd _ rfl) (by rw [hn]; exact hi)
  case lstore_n i =>
    exact hs_lstore_n B hK (hd _ rfl) (by rw [hn]; exact hi)
  case astore i =>
    exact hs_astore B hK (hd _ rfl) (by rw [hn]; exact hi)
  case astore_n i =>
    exact hs_astore_n B hK (hd _ rfl) (by rw [hn]; exact hi)
  case iinc i c =>
    exact hs_iinc B hK (hd _ rfl) (by rw [hn]; exact hi)
  case iadd =>
    exact hs_iadd B hK (hd _ rfl) hi
  case isub =>
    exact hs_isub B hK (hd _ rfl) hi
  case imul =>
    exact hs_imul B hK (hd _ rfl) hi
  case iand =>
    exact hs_iand B hK (hd _ rfl) hi
  case ior =>
    exact hs_ior B hK (hd _ rfl) hi
  case ixor =>
    exact hs_ixor B hK (hd _ rfl) hi
  case ishl =>
    exact hs_ishl B hK (hd _ rfl) hi
  case ishr =>
    exact hs_ishr B hK (hd _ rfl) hi
  case ladd =>
    exact hs_ladd B hK (hd _ rfl) hi
  case lsub =>
    exact hs_lsub B hK (hd _ rfl) hi
  case lmul =>
    exact hs_lmul B hK (hd _ rfl) hi
  case land =>
    exact hs_land B hK (hd _ rfl) hi
  case lor =>
    exact hs_lor B hK (hd _ rfl) hi
  case lxor =>
    exact hs_lxor B hK (hd _ rfl) hi
  case idiv =>
    exact hs_idiv B hK (hd _ rfl) hi
  case irem =>
    exact hs_irem B hK (hd _ rfl) hi
  case iushr =>
    exact hs_iushr B hK (hd _ rfl) hi
  case lushr =>
    exact hs_lushr B hK (hd _ rfl) hi
  case lshl =>
    exact hs_lshl B hK (hd _ rfl) hi
  case lshr =>
    exact hs_lshr B hK (hd _ rfl) hi
  case lcmp =>
    exact hs_lcmp B hK (hd _ rfl) hi
  case ineg =>
    exact hs_ineg B hK (hd _ rfl) hi
  case lneg =>
    exact hs_lneg B hK (hd _ rfl) hi
  case i2l =>
    exact hs_i2l B hK (hd _ rfl) hi
  case l2i =>
    exact hs_l2i B hK (hd _ rfl) hi
  case dup =>
    exact hs_dup B hK (hd _ rfl) hi
  case pop =>
    exact hs_pop B hK (hd _ rfl) hi
  case dup2 =>
    exact hs_dup2 B hK (hd _ rfl) hi
  case dup_x1 =>
    exact hs_dup_x1 B hK (hd _ rfl) hi
  case ifCond c o =>
    cases c
    case eq => exact hs_if_eq B hK (hd _ rfl) hi
    case ne => exact hs_if_ne B hK (hd _ rfl) hi
    case lt => exact hs_if_lt B hK (hd _ rfl) hi
    case ge => exact hs_if_ge B hK (hd _ rfl) hi
    case gt => exact hs_if_gt B hK (hd _ rfl) hi
    case le => exact hs_if_le B hK (hd _ rfl) hi
  case if_icmp c o =>
    cases c
    case eq => exact hs_icmp_eq B hK (hd _ rfl) hi
    case ne => exact hs_icmp_ne B hK (hd _ rfl) hi
    case lt => exact hs_icmp_lt B hK (hd _ rfl) hi
    case ge => exact hs_icmp_ge B hK (hd _ rfl) hi
    case gt => exact hs_icmp_gt B hK (hd _ rfl) hi
    case le => exact hs_icmp_le B hK (hd _ rfl) hi
  case goto o =>
    exact hs_goto B hK (hd _ rfl) hi
  case getfield i =>
    obtain ⟨f, e1, hi1⟩ := hp_with_of hi
    obtain ⟨r0, f1, f2, f3⟩ := V.2.1 _ (hp_lk_mem _ _ _ e1)
    exact hs_getfield B hK O hco f1 f2 f3 (hd _ rfl) hi1
  case putfield i =>
    obtain ⟨f, e1, hi2⟩ := hp_with_of hi
    obtain ⟨r1, e2, f4, hi3⟩ := hp_with_of hi2
    obtain ⟨r0, f1, f2, f3⟩ := V.2.1 _ (hp_lk_mem _ _ _ e1)
    cases f1.symm.trans e2
    refine hs_putfield B hK O hco f1 f2 f3 ?_ (hd _ rfl) hi3
    rcases f4 with f4 | ⟨f4, f5, f6⟩
    · exact Or.inl f4
    · exact Or.inr ⟨f4, by rw [hnm]; exact f5, f6⟩
  case iaload =>
    obtain ⟨i, r, rfl, hi4⟩ := st_i_of hi
    obtain ⟨a, r, rfl, ty, N, f, hty, h1, h2, h3⟩ := st_a_of hi4
    rcases hty with rfl | rfl
    · exact hs_iaload B hK (hd _ rfl) rfl h1 h2 h3
    · exact hs_ialoadS B hK (hd _ rfl) rfl h1 h2 h3
  case laload =>
    obtain ⟨i, r, rfl, hi5⟩ := st_i_of hi
    obtain ⟨a, r, rfl, N, f, h1, h2, h3⟩ := st_a_of hi5
    exact hs_laload B hK (hd _ rfl) rfl h1 h2 h3
  case baload =>
    obtain ⟨i, r, rfl, hi6⟩ := st_i_of hi
    obtain ⟨a, r, rfl, N, f, h1, h2, h3⟩ := st_a_of hi6
    exact hs_zaload B hK (hd _ rfl) rfl h1 h2 h3
  case aaload =>
    obtain ⟨i, r, rfl, hi7⟩ := st_i_of hi
    obtain ⟨a, r, rfl, t, N, f, h1, h2, h3⟩ := st_a_of hi7
    exact hs_aaload B hK (hd _ rfl) rfl rfl rfl h1 h2 h3
  case iastore =>
    obtain ⟨x, r, rfl, hi8⟩ := st_i_of hi
    obtain ⟨i, r, rfl, hi9⟩ := st_i_of hi8
    obtain ⟨a, r, rfl, N, f, h1, h2, h3⟩ := st_a_of hi9
    exact hs_iastore B hK (hd _ rfl) rfl h1 h2 h3
  case lastore =>
    obtain ⟨x, r, rfl, hi10⟩ := st_l_of hi
    obtain ⟨i, r, rfl, hi11⟩ := st_i_of hi10
    obtain ⟨a, r, rfl, N, f, h1, h2, h3⟩ := st_a_of hi11
    exact hs_lastore B hK (hd _ rfl) rfl h1 h2 h3
  case bastore =>
    obtain ⟨x, r, rfl, hi12⟩ := st_i_of hi
    obtain ⟨i, r, rfl, hi13⟩ := st_i_of hi12
    obtain ⟨a, r, rfl, N, f, h1, h2, h3, h4⟩ := st_a_of hi13
    exact hs_zastore B hK (hd _ rfl) rfl h1 h2 h3 h4
  case arraylength =>
    obtain ⟨a, r, rfl, ty, N, x, h1, h2⟩ := st_a_of hi
    exact hs_arraylength B hK (hd _ rfl) rfl h1 h2
  case newarray t =>
    obtain ⟨x, r, rfl, N, h1, h2, h3, h4, h5, ⟨h6, h7⟩, h8⟩ := st_i_of hi
    exact hs_newarray B hK O rfl h6 h7 (hd _ rfl) rfl h2 h1 h3 (by rw [hR]; exact h4) (by rw [hR]; exact h5) h8
  case ldc i =>
    obtain ⟨v, e1, hi14⟩ := hp_with_of hi
    exact hs_ldc B hK O (V.2.2.2.1 _ (hp_lk_mem _ _ _ e1)) (hd _ rfl) hi14
  case ldc2_w i =>
    obtain ⟨v, e1, hi15⟩ := hp_with_of hi
    exact hs_ldc2 B hK O (V.2.2.2.2.1 _ (hp_lk_mem _ _ _ e1)) (hd _ rfl) hi15
  case tableswitch d lo up os =>
    exact hs_tableswitch B hK hdec hi
  case new i =>
    obtain ⟨ci, e1, hi16⟩ := hp_with_of hi
    obtain ⟨r1, e2, c1, c2, hi17⟩ := hp_with_of hi16
    obtain ⟨r0, f1, f2⟩ := V.2.2.2.2.2 _ (hp_lk_mem _ _ _ e1)
    cases f1.symm.trans e2
    exact hs_new B hK O hco f1 f2 (hd _ rfl) (by rw [hR]; exact c1) (by rw [hR]; exact c2) hi17
  case invokestatic i =>
    obtain ⟨q, e1, hi18⟩ := hp_with_of hi
    have hv := V.2.2.1 _ (hp_lk_mem _ _ _ e1)
    obtain ⟨kd, Y'⟩ := q
    match kd, hv, hi18 with
    | 0, hv, hi =>
      obtain ⟨as, rest, e2, rfl, hi19⟩ := hp_args_of _ _ _ _ hi
      rw [List.append_nil] at hi19
      obtain ⟨v1, v2, v3, v4, v5, v6⟩ := hv
      refine hp_call_ic B hK O hnt hth (hd _ rfl) v1 v4 hR hl hw hQ hlk hex (fun v hv => List.mem_append_right _ hv) (fun v hv => List.mem_append_left _ (List.mem_reverse.mpr hv)) (fun σ H ls a1 a2 => ?_) hi19
      rw [List.map_append, List.map_reverse]
      exact hp_inv_S B O v1 v2 v3 v4 v5 v6 (hd _ rfl) (by rw [List.length_map]; exact e2) ls H
    | 1, hv, hi =>
      obtain ⟨as, rest, e2, rfl, hi20⟩ := hp_args_of _ _ _ _ hi
      rw [List.append_nil] at hi20
      obtain ⟨host, v1, v2, v3, v4, v5, v6⟩ := hv
      refine hp_call_ic B hK O hnt hth (hd _ rfl) v1 v4 hR hl hw hQ hlk hex (fun v hv => List.mem_append_right _ hv) (fun v hv => List.mem_append_left _ (List.mem_reverse.mpr hv)) (fun σ H ls a1 a2 => ?_) hi20
      rw [List.map_append, List.map_reverse]
      exact hp_inv_SN B O v1 v2 v3 v4 v5 v6 (hd _ rfl) (by rw [List.length_map]; exact e2) ls H
    | _ + 2, hv, hi => exact False.elim hi
  case invokevirtual i =>
    obtain ⟨q, e1, hi21⟩ := hp_with_of hi
    have hv := V.2.2.1 _ (hp_lk_mem _ _ _ e1)
    obtain ⟨kd, Y'⟩ := q
    match kd, hv, hi21 with
    | 0, hv, hi => exact False.elim hi
    | 1, hv, hi => exact False.elim hi
    | 2, hv, hi =>
      obtain ⟨as, r, e2, rfl, hi22⟩ := hp_args_of _ _ _ _ hi
      rw [List.append_nil] at hi22
      obtain ⟨a, rest, rfl, ⟨ci, fs, ha, hcn⟩, hi23⟩ := st_a_of hi22
      obtain ⟨v1, v2, v3, v4, v5, v6, v7⟩ := hv
      refine hp_call_ic B hK O hnt hth (hd _ rfl) v1 v5 hR hl hw hQ hlk hex (fun v hv => List.mem_append_right _ (List.mem_cons_of_mem _ hv)) (fun v hv => by rcases List.mem_cons.mp hv with e | e; (rw [e]; exact List.mem_append_right _ List.mem_cons_self); exact List.mem_append_left _ (List.mem_reverse.mpr e)) (fun σ H ls a1 a2 => ?_) hi23
      rw [List.map_append, List.map_reverse]
      obtain ⟨cell, c1, c2, c3⟩ := hp_recv O a1 ha hcn
      exact hp_inv_V B O v1 v2 v3 v4 v6 v7 (hd _ rfl) (by rw [List.length_map]; exact e2) ls c1 c2 c3
    | 3, hv, hi =>
      obtain ⟨as, r, e2, rfl, hi24⟩ := hp_args_of _ _ _ _ hi
      rw [List.append_nil] at hi24
      obtain ⟨a, rest, rfl, ⟨ci, fs, ha, hcn⟩, hi25⟩ := st_a_of hi24
      obtain ⟨host, v1, v2, v3, v4, v5, v6, v7⟩ := hv
      refine hp_call_ic B hK O hnt hth (hd _ rfl) v1 v5 hR hl hw hQ hlk hex (fun v hv => List.mem_append_right _ (List.mem_cons_of_mem _ hv)) (fun v hv => by rcases List.mem_cons.mp hv with e | e; (rw [e]; exact List.mem_append_right _ List.mem_cons_self); exact List.mem_append_left _ (List.mem_reverse.mpr e)) (fun σ H ls a1 a2 => ?_) hi25
      rw [List.map_append, List.map_reverse]
      obtain ⟨cell, c1, c2, c3⟩ := hp_recv O a1 ha hcn
      exact hp_inv_VN B O v1 v2 v3 v4 v6 v7 (hd _ rfl) (by rw [List.length_map]; exact e2) ls c1 c2 c3
    | _ + 4, hv, hi => exact False.elim hi
  case invokespecial i =>
    obtain ⟨q, e1, hi26⟩ := hp_with_of hi
    have hv := V.2.2.1 _ (hp_lk_mem _ _ _ e1)
    obtain ⟨kd, Y'⟩ := q
    match kd, hv, hi26 with
    | 0, hv, hi => exact False.elim hi
    | 1, hv, hi => exact False.elim hi
    | 2, hv, hi => exact False.elim hi
    | 3, hv, hi => exact False.elim hi
    | 4, hv, hi =>
      obtain ⟨as, r, e2, rfl, hi27⟩ := hp_args_of _ _ _ _ hi
      rw [List.append_nil] at hi27
      obtain ⟨a, rest, rfl, hi28⟩ := st_a_of hi27
      obtain ⟨v1, u1, u2, v2, v3, v4, v5, v6, v7⟩ := hv
      refine hp_call_ic B hK O hnt hth (hd _ rfl) v1 v5 hR hl hw hQ hlk hex (fun v hv => List.mem_append_right _ (List.mem_cons_of_mem _ hv)) (fun v hv => by rcases List.mem_cons.mp hv with e | e; (rw [e]; exact List.mem_append_right _ List.mem_cons_self); exact List.mem_append_left _ (List.mem_reverse.mpr e)) (fun σ H ls a1 a2 => ?_) hi28
      rw [List.map_append, List.map_reverse]
      exact hp_inv_I B O v1 u1 u2 v2 v3 v4 v6 v7 (hd _ rfl) (by rw [List.length_map]; exact e2) ls
    | 5, hv, hi =>
      obtain ⟨as, r, e2, rfl, hi29⟩ := hp_args_of _ _ _ _ hi
      rw [List.append_nil] at hi29
      obtain ⟨a, rest, rfl, hi30⟩ := st_a_of hi29
      obtain ⟨host, v1, u1, u2, v2, v3, v4, v5, v6, v7⟩ := hv
      refine hp_call_ic B hK O hnt hth (hd _ rfl) v1 v5 hR hl hw hQ hlk hex (fun v hv => List.mem_append_right _ (List.mem_cons_of_mem _ hv)) (fun v hv => by rcases List.mem_cons.mp hv with e | e; (rw [e]; exact List.mem_append_right _ List.mem_cons_self); exact List.mem_append_left _ (List.mem_reverse.mpr e)) (fun σ H ls a1 a2 => ?_) hi30
      rw [List.map_append, List.map_reverse]
      exact hp_inv_IN B O v1 u1 u2 v2 v3 v4 v6 v7 (hd _ rfl) (by rw [List.length_map]; exact e2) ls
    | 6, hv, hi =>
      obtain ⟨v1, v2, v3⟩ := hv
      change cond (Nat.ble 1 (y_fr Y)) (st_a st fun a r => cond (Nat.ble ((r.map fun v => v.category).sum + 12) (y_lo Y)) (K (pc + 3) lv r h w k n) False) False at hi
      cases hb : Nat.ble 1 (y_fr Y) with
      | false => rw [hb] at hi; exact False.elim hi
      | true =>
        rw [hb] at hi
        obtain ⟨a, r, rfl, hi31⟩ := st_a_of hi
        cases hb2 : Nat.ble ((r.map fun v => v.category).sum + 12) (y_lo Y) with
        | false => rw [hb2] at hi31; exact False.elim hi31
        | true =>
          rw [hb2] at hi31
          exact hs_objInit B hK O v1 v2 v3 (hd _ rfl) (by rw [hR]; exact Nat.le_of_ble_eq_true hb) (by rw [hR]; exact Nat.le_of_ble_eq_true hb2) rfl hi31
    | _ + 7, hv, hi => exact False.elim hi
  case ireturn =>
    obtain ⟨x, r, rfl, hi32⟩ := st_i_of hi
    obtain ⟨ty, e1, rfl, h1, h2⟩ := hp_with_of hi32
    exact hs_ireturn B hK (hrt.trans e1) hlk (hd _ rfl) rfl ⟨h1, by unfold hp_end; rw [hw, hQ]; exact h2⟩
  case lreturn =>
    obtain ⟨x, r, rfl, rfl, e1, h2⟩ := st_l_of hi
    exact hs_lreturn B hK (hrt.trans e1) hlk (hd _ rfl) rfl (by unfold hp_end; rw [hw, hQ]; exact h2)
  case return_ =>
    obtain ⟨rfl, e1, h2⟩ := hi
    exact hs_return B hK (hrt.trans e1) hlk (hd _ rfl) rfl (by unfold hp_end; rw [hw, hQ]; exact h2)
  case areturn =>
    obtain ⟨x, r, rfl, rfl, ⟨t, e1⟩, h2⟩ := st_a_of hi
    exact hs_areturn B hK (hrt.trans e1) (Or.inr ⟨t, rfl⟩) hlk (hd _ rfl) rfl (by unfold hp_end; rw [hw, hQ]; exact h2)
  all_goals exact False.elim hi
def hp_in (i : Nat) (l : List Nat) : Bool := match l with
  | [] => false
  | q :: r => cond (Nat.beq q i) true (hp_in i r)
/-- a run of so many instructions, up to the places where it stops -/
def hp_run (l : Launch) (T : hp_T) (Y : hp_Y) (w0 : Bool) (dk dn : Nat) (Q : hp_R → hp_H → Prop) (stop : List Nat) (f : Nat) (K : hp_K) (pc : Nat) (lv : hp_L) (st : List Value) (h : hp_H) (w : Bool) (k n : Nat) : Prop := match f with
  | 0 => K pc lv st h w k n
  | f + 1 => hp_with (hp_lk (t_code T) pc) fun ins => hp_i l T Y w0 dk dn Q (fun pc lv st h w k n => cond (hp_in pc stop) (K pc lv st h w k n) (hp_run l T Y w0 dk dn Q stop f K pc lv st h w k n)) ins pc lv st h w k n
theorem hp_run_sound {T : hp_T} {Y : hp_Y} {l : Launch} {w0 : Bool} {dk dn : Nat} {Q : hp_R → hp_H → Prop} {G : hp_G} (hco : hp_clsok) (V : hp_val T Y) (C : hp_ctx T Y l w0 dk dn Q G) {K : hp_K} (hK : ∀ pc lv st h w k n, K pc lv st h w k n → hp_W G pc lv st h w k n) (stop : List Nat) :
    ∀ (f : Nat) (pc : Nat) (lv : hp_L) (st : List Value) (h : hp_H) (w : Bool) (k n : Nat), hp_run l T Y w0 dk dn Q stop f K pc lv st h w k n → hp_W G pc lv st h w k n
  | 0, pc, lv, st, h, w, k, n, hi => hK _ _ _ _ _ _ _ hi
  | f + 1, pc, lv, st, h, w, k, n, hi => by
    obtain ⟨ins, e1, hi⟩ := hp_with_of hi
    refine hp_i_sound hco V C (fun pc lv st h w k n hq => ?_) e1 hi
    cases hb : hp_in pc stop with
    | true => rw [hb] at hq; exact hK _ _ _ _ _ _ _ hq
    | false => rw [hb] at hq; exact hp_run_sound hco V C hK stop f pc lv st h w k n hq
/-! the start of a method -/
theorem hp_args_map (σ : List Nat) : ∀ (av : List Value) (i : Nat), lv_args i (av.map (hp_cv σ)) = (lv_args i av).map fun q => (q.1, hp_cv σ q.2)
  | [], i => rfl
  | v :: av, i => by
    simp only [List.map_cons, lv_args, hp_cv_cat]
    rw [hp_args_map σ av]
theorem hp_args_ok (σ : List Nat) : ∀ (av : List Value) (i : Nat), (∀ v ∈ av, hp_ok σ v) → ∀ q ∈ lv_args i av, hp_ok σ q.2
  | [], i, _, q, hq => by cases hq
  | v :: av, i, h, q, hq => by
    rcases List.mem_cons.mp hq with e | e
    · rw [e]; exact h v List.mem_cons_self
    · exact hp_args_ok σ av _ (fun v hv => h v (List.mem_cons_of_mem _ hv)) q e
theorem hp_start {T : hp_T} {Y : hp_Y} {l : Launch} {av : List Value} {h : hp_H} {w0 : Bool} {dk dn : Nat} {Q : hp_R → hp_H → Prop} (hy : plainFor (y_nm Y) = true) (hown : t_own T = (y_nm Y).cls) (hlen : ∀ σ, (lg_sl (av.map (hp_cv σ))).length ≤ y_mx Y)
    (body : ∀ G : hp_G, hp_ctx T Y l w0 dk dn Q G → hp_W G 0 (lv_args 0 av) [] h true 0 0) : hp_M l Y av h w0 dk dn Q := by
  intro hnt D z σ
  refine MetFree.of_bodySF (code := y_cc Y) (maxLocals := y_mx Y) (ret := y_rt Y) hy ?_ ?_
  · intro args s m hb hn
    obtain ⟨meth, c, h1, h2, h3, h4, h5, h6, -⟩ := hp_cd_spec hn (atoms_spec (ws := [hp_cd Y]) hb _ List.mem_cons_self)
    exact ⟨meth, c, h1, h2, h3, h4, h5, h6⟩
  · intro p e s m args below meth c s₁ B hml hP _
    obtain ⟨rfl, hav, hrep, hKn, hz, hth⟩ := hP
    obtain ⟨meth2, c2, h1, h2, h3, h4, h5, h6, h7, h8⟩ := hp_cd_spec B.named (atoms_spec (ws := [hp_cd Y]) B.pre _ List.mem_cons_self)
    cases B.method.symm.trans h1
    cases (Stand.of_body B).code.symm.trans h2
    have hh0 : s₁.heap = s.heap := by rw [B.state]; rfl
    have hts : ∀ w ∈ hp_Ts, w.before (av.map (hp_cv σ)).toArray s = true := fun w hw => (hth s (State.WarmedH.refl s) (fun _ _ => rfl)).1 w hw _
    have hW := body (p, l, e, { frames := y_fr Y, cells := dk, slots := dn, locals := y_lo Y }, s, m, (av.map (hp_cv σ)).toArray, below, meth, c, D, z, σ, y_mx Y, w0, Q)
      ⟨⟨B.exec, B.bytes, hml⟩, ⟨hts, by rw [hown]; exact findClass_of_methodNamed B.named, hKn, hz⟩, rfl, rfl, rfl, rfl, rfl, B.returns, B.notSynchronized, (name_of_methodNamed B.named B.method).1, h7, hnt, hth⟩
    have hl := lv_entry (av.map (hp_cv σ)) (n := y_mx Y) (hlen σ)
    have hlv : hp_lv σ (y_mx Y) (lv_args 0 av) ((lg_sl (av.map (hp_cv σ)) ++ List.replicate (y_mx Y - (lg_sl (av.map (hp_cv σ))).length) Slot.unset).toArray) := by
      refine ⟨hl.1, hl.2.1, fun q hq => ⟨hp_args_ok σ av 0 hav q hq, ?_⟩⟩
      refine hl.2.2 (q.1, hp_cv σ q.2) ?_
      rw [hp_args_map]
      exact List.mem_map.mpr ⟨q, hq, rfl⟩
    have hW2 := hW σ s.heap [] _ hrep hp_le_rf hp_fr_rf (fun q hq => by cases hq) (fun _ => rfl) hlv (fun v hv => by cases hv) (Nat.zero_le _) (Nat.zero_le _)
    obtain ⟨t, t1, o, t2, t3, t4⟩ := hW2 s₁ hh0 (Stand.of_body B)
    refine ⟨t, o, ?_, t2, t3, t4⟩
    rw [lg_entry_eq]
    exact t1

