/-! calls whose end is one end -/
abbrev hq_P (r0 : hp_R) (h0 : hp_H) : hp_R → hp_H → Prop := fun r h' => r = r0 ∧ h' = h0
theorem ic_P {l : Launch} {Y : hp_Y} {av : List Value} {h : hp_H} {wy : Bool} {dk dn dk0 dn0 k n : Nat} {r0 : hp_R} {h0 : hp_H} {F : Bool → Nat → Nat → hp_R → hp_H → Prop} (hM : hp_M l Y av h wy dk dn (hq_P r0 h0)) (h1 : k + dk ≤ dk0) (h2 : n + dn ≤ dn0) (hi : F wy dk dn r0 h0) :
    ∃ (wy : Bool) (dk dn : Nat) (Qy : hp_R → hp_H → Prop), hp_M l Y av h wy dk dn Qy ∧ k + dk ≤ dk0 ∧ n + dn ≤ dn0 ∧ ∀ r h', Qy r h' → F wy dk dn r h' :=
  ⟨wy, dk, dn, _, hM, h1, h2, fun r h' q => by obtain ⟨e1, e2⟩ := q; rw [e1, e2]; exact hi⟩
theorem ic_Q {l : Launch} {Y : hp_Y} {av : List Value} {h : hp_H} {wy : Bool} {dk dn dk0 dn0 k n : Nat} {Q : hp_R → hp_H → Prop} {F : Bool → Nat → Nat → hp_R → hp_H → Prop} (hM : hp_M l Y av h wy dk dn Q) (h1 : k + dk ≤ dk0) (h2 : n + dn ≤ dn0) (hi : ∀ r h', Q r h' → F wy dk dn r h') :
    ∃ (wy : Bool) (dk dn : Nat) (Qy : hp_R → hp_H → Prop), hp_M l Y av h wy dk dn Qy ∧ k + dk ≤ dk0 ∧ n + dn ≤ dn0 ∧ ∀ r h', Qy r h' → F wy dk dn r h' :=
  ⟨wy, dk, dn, _, hM, h1, h2, hi⟩
theorem M_swap {l : Launch} {Y : hp_Y} {av : List Value} {h : hp_H} {w : Bool} {dk dn : Nat} {r0 : hp_R} (hM : hp_M l Y av h w dk dn (fun r h' => h' = h ∧ r = r0)) : hp_M l Y av h w dk dn (hq_P r0 h) := hp_M_weak hM (fun _ _ q => ⟨q.2, q.1⟩)
/-! numbers of a long -/
def nn (x : Int64) : Nat := x.toBitVec.toNat
theorem nn_lt (x : Int64) : nn x < 2 ^ 64 := x.toBitVec.isLt
theorem nn_bit (x : Int64) (i : Nat) : (nn x).testBit i = bb x i := rfl
theorem nn_inj {x y : Int64} (h : nn x = nn y) : x = y := Int64.toBitVec_inj.mp (BitVec.eq_of_toNat_eq h)
theorem nn_add (x y : Int64) : nn (x + y) = (nn x + nn y) % 2 ^ 64 := by unfold nn; rw [Int64.toBitVec_add, BitVec.toNat_add]
theorem nn_sub (x y : Int64) : nn (x - y) = (2 ^ 64 - nn y + nn x) % 2 ^ 64 := by unfold nn; rw [Int64.toBitVec_sub, BitVec.toNat_sub]
theorem nn_neg (x : Int64) : nn (-x) = (2 ^ 64 - nn x) % 2 ^ 64 := by unfold nn; rw [Int64.toBitVec_neg, BitVec.toNat_neg]
theorem nn_and (x y : Int64) : nn (x &&& y) = nn x &&& nn y := by unfold nn; rw [Int64.toBitVec_and, BitVec.toNat_and]
theorem nn_shr {k : Nat} (hk : k < 64) (x : Int64) : nn ((x.toUInt64 >>> ((nI k).toInt64.toUInt64 &&& Int64.toUInt64 63)).toInt64) = nn x / 2 ^ k := by
  apply Nat.eq_of_testBit_eq
  intro i
  rw [Nat.testBit_div_two_pow, nn_bit, nn_bit, bb_shr hk, Nat.add_comm]
theorem nn_lN {n : Nat} (h : n < 2 ^ 64) : nn (lN n) = n := by
  show (BitVec.ofNat 64 n).toNat = n
  rw [BitVec.toNat_ofNat, Nat.mod_eq_of_lt h]
theorem nn_1 : nn 1 = 1 := rfl
theorem nn_0 : nn 0 = 0 := rfl
theorem nn_i (x : Int64) : x.toInt32 = nI (nn x) := by
  apply Int32.toBitVec_inj.mp
  rw [Int64.toBitVec_toInt32]
  show _ = BitVec.ofNat 32 (nn x)
  apply BitVec.eq_of_toNat_eq
  rw [BitVec.signExtend_eq_setWidth_of_le _ (by decide), BitVec.toNat_setWidth, BitVec.toNat_ofNat]
  rfl
/-! Long.bitCount -/
theorem pc_final {f : Nat} (h : f % 256 ≤ 64) : nI f &&& 127 = nI (f % 256) := by
  have e : nI f = nI (f % 2 ^ 32) := by
    apply Int32.toBitVec_inj.mp
    show BitVec.ofNat 32 f = BitVec.ofNat 32 (f % 2 ^ 32)
    apply BitVec.eq_of_toNat_eq
    rw [BitVec.toNat_ofNat, BitVec.toNat_ofNat, Nat.mod_mod]
  rw [e, pk_andN (n := f % 2 ^ 32) (Nat.mod_lt _ (by decide)) (m := 127) 7 (by decide)]
  congr 1
  have h2 : f % 2 ^ 32 % 2 ^ 7 = f % 2 ^ 7 := Nat.mod_mod_of_dvd f (by decide)
  rw [h2]
  have h3 : f % 256 % 2 ^ 7 = f % 2 ^ 7 := Nat.mod_mod_of_dvd f (by decide)
  rw [← h3]
  exact Nat.mod_eq_of_lt (by omega)
set_option maxRecDepth 20000 in
theorem c_jl_bitCount (l : Launch) (h : hp_H) (x : Int64) : hp_M l Y_jl_bitCount [.long x] h true 0 0 (hq_P (.inl (some (.int (nI (cn (bb x) 64))))) h) := by
  refine hp_start (T := T_jl_bitCount) (by decide) rfl (fun σ => Nat.le_of_ble_eq_true rfl) (fun G C => ?_)
  refine hp_run_sound hp_co V_jl_bitCount C (fun _ _ _ _ _ _ _ hq => hq) [] 60 _ _ _ _ _ _ _ ?_
  refine And.intro rfl (And.intro rfl (And.intro ?_ rfl))
  obtain ⟨a, ea⟩ : ∃ a, a = x - ((x.toUInt64 >>> ((nI 1).toInt64.toUInt64 &&& Int64.toUInt64 63)).toInt64 &&& 6148914691236517205) := ⟨_, rfl⟩
  obtain ⟨b, eb⟩ : ∃ b, b = (a &&& 3689348814741910323) + ((a.toUInt64 >>> ((nI 2).toInt64.toUInt64 &&& Int64.toUInt64 63)).toInt64 &&& 3689348814741910323) := ⟨_, rfl⟩
  obtain ⟨c, ec⟩ : ∃ c, c = (b + (b.toUInt64 >>> ((nI 4).toInt64.toUInt64 &&& Int64.toUInt64 63)).toInt64) &&& 1085102592571150095 := ⟨_, rfl⟩
  obtain ⟨d, ed⟩ : ∃ d, d = c + (c.toUInt64 >>> ((nI 8).toInt64.toUInt64 &&& Int64.toUInt64 63)).toInt64 := ⟨_, rfl⟩
  obtain ⟨e, ee⟩ : ∃ e, e = d + (d.toUInt64 >>> ((nI 16).toInt64.toUInt64 &&& Int64.toUInt64 63)).toInt64 := ⟨_, rfl⟩
  obtain ⟨f, ef⟩ : ∃ f, f = e + (e.toUInt64 >>> ((nI 32).toInt64.toUInt64 &&& Int64.toUInt64 63)).toInt64 := ⟨_, rfl⟩
  have hgoal : f.toInt32 &&& 127 = nI (cn (bb x) 64) := by
    obtain ⟨p0, pa, pb, pb2, pc, pd, pe, pf⟩ := pc_all (nn_lt x) rfl rfl rfl rfl rfl rfl
    have ha : nn a = nn x - (nn x / 2 &&& 0x5555555555555555) := by
      rw [ea, nn_sub, nn_and, nn_shr (by decide)]
      have h1 : nn x / 2 ^ 1 &&& nn 6148914691236517205 ≤ nn x := Nat.le_trans Nat.and_le_left (Nat.div_le_self _ _)
      have h2 := nn_lt x
      have h3 : nn 6148914691236517205 = 0x5555555555555555 := by decide
      rw [h3] at h1 ⊢
      show (2 ^ 64 - (nn x / 2 &&& 0x5555555555555555) + nn x) % 2 ^ 64 = _
      have h4 : (nn x / 2 &&& 0x5555555555555555) ≤ nn x := h1
      have h5 : 2 ^ 64 - (nn x / 2 &&& 0x5555555555555555) + nn x = (nn x - (nn x / 2 &&& 0x5555555555555555)) + 2 ^ 64 := by omega
      rw [h5, Nat.add_mod_right, Nat.mod_eq_of_lt (by omega)]
    have hb : nn b = (nn a &&& 0x3333333333333333) + (nn a / 4 &&& 0x3333333333333333) := by
      rw [eb, nn_add, nn_and, nn_and, nn_shr (by decide)]
      have h3 : nn 3689348814741910323 = 0x3333333333333333 := by decide
      rw [h3]
      refine Nat.mod_eq_of_lt ?_
      rw [ha]
      exact pb
    have hc : nn c = (nn b + nn b / 16) &&& 0x0f0f0f0f0f0f0f0f := by
      rw [ec, nn_and, nn_add, nn_shr (by decide)]
      have h3 : nn 1085102592571150095 = 0x0f0f0f0f0f0f0f0f := by decide
      rw [h3]
      congr 1
      refine Nat.mod_eq_of_lt ?_
      rw [hb, ha]
      exact pb2
    have hd : nn d = nn c + nn c / 256 := by
      rw [ed, nn_add, nn_shr (by decide)]
      refine Nat.mod_eq_of_lt ?_
      rw [hc, hb, ha]
      exact pd
    have he : nn e = nn d + nn d / 65536 := by
      rw [ee, nn_add, nn_shr (by decide)]
      refine Nat.mod_eq_of_lt ?_
      rw [hd, hc, hb, ha]
      exact pe
    have hf : nn f = nn e + nn e / 4294967296 := by
      rw [ef, nn_add, nn_shr (by decide)]
      refine Nat.mod_eq_of_lt ?_
      rw [he, hd, hc, hb, ha]
      exact pf
    have htot : nn f % 256 = cn (bb x) 64 := by
      rw [hf, he, hd, hc, hb, ha]
      exact p0
    rw [nn_i, pc_final (by rw [htot]; exact cn_le _ _), htot]
  subst ef; subst ee; subst ed; subst ec; subst eb; subst ea
  exact congrArg (fun z => (Sum.inl (some (Value.int z)) : hp_R)) hgoal
