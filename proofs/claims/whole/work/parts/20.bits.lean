/-! BITS of a long -/
def bb (x : Int64) (i : Nat) : Bool := x.toBitVec.getLsbD i
theorem bb_ext {x y : Int64} (h : ∀ i, i < 64 → bb x i = bb y i) : x = y := Int64.toBitVec_inj.mp (BitVec.eq_of_getLsbD_eq h)
theorem bb_and (x y : Int64) (i : Nat) : bb (x &&& y) i = (bb x i && bb y i) := by unfold bb; rw [Int64.toBitVec_and, BitVec.getLsbD_and]
theorem bb_or (x y : Int64) (i : Nat) : bb (x ||| y) i = (bb x i || bb y i) := by unfold bb; rw [Int64.toBitVec_or, BitVec.getLsbD_or]
theorem bb_xor (x y : Int64) (i : Nat) : bb (x ^^^ y) i = (bb x i ^^ bb y i) := by unfold bb; rw [Int64.toBitVec_xor, BitVec.getLsbD_xor]
theorem bb_0 (i : Nat) : bb 0 i = false := by
  show (0#64).getLsbD i = false
  simp
theorem bb_m1 {i : Nat} (hi : i < 64) : bb (-1) i = true := by
  have h : (-1 : Int64).toBitVec = BitVec.allOnes 64 := by decide
  unfold bb
  rw [h, BitVec.getLsbD_allOnes]
  simp [hi]
theorem bb_not (x : Int64) {i : Nat} (hi : i < 64) : bb (x ^^^ (-1)) i = !bb x i := by
  rw [bb_xor, bb_m1 hi, Bool.xor_true]
theorem bb_big {x : Int64} {i : Nat} (h : 64 ≤ i) : bb x i = false := BitVec.getLsbD_of_ge _ _ h
theorem wb_tb (n : Nat) : (lN n).toBitVec = BitVec.ofNat 64 n := rfl
theorem wb_inj {a b : Int64} (h : a.toBitVec = b.toBitVec) : a = b := Int64.toBitVec_inj.mp h
theorem wb_c : ∀ k, k < 64 → ((nI k).toInt64 &&& 63) = lN k := by decide +kernel
theorem wb_cu : ∀ k, k < 64 → ((nI k).toInt64.toUInt64 &&& Int64.toUInt64 63) = UInt64.ofNat k := by decide +kernel
theorem wb_sm : ∀ k, k < 64 → (BitVec.ofNat 64 k).smod 64 = BitVec.ofNat 64 k := by decide +kernel
theorem bb_shl {k : Nat} (hk : k < 64) (x : Int64) {i : Nat} (hi : i < 64) : bb (x <<< ((nI k).toInt64 &&& 63)) i = (decide (k ≤ i) && bb x (i - k)) := by
  rw [wb_c k hk]
  unfold bb
  rw [Int64.toBitVec_shiftLeft, wb_tb, wb_sm k hk, BitVec.shiftLeft_eq', BitVec.getLsbD_shiftLeft, BitVec.toNat_ofNat, Nat.mod_eq_of_lt (show k < 2 ^ 64 by omega)]
  by_cases h : k ≤ i
  · simp [h, hi, Nat.not_lt.mpr h]
  · simp [h, Nat.lt_of_not_le h]
theorem bb_shr {k : Nat} (hk : k < 64) (x : Int64) (i : Nat) : bb ((x.toUInt64 >>> ((nI k).toInt64.toUInt64 &&& Int64.toUInt64 63)).toInt64) i = bb x (k + i) := by
  rw [wb_cu k hk]
  have e : (x.toUInt64 >>> UInt64.ofNat k).toInt64.toBitVec = x.toBitVec >>> k := by
    apply BitVec.eq_of_toNat_eq
    show (x.toUInt64 >>> UInt64.ofNat k).toNat = _
    have h1 : (UInt64.ofNat k).toNat = k := by
      show (BitVec.ofNat 64 k).toNat = k
      rw [BitVec.toNat_ofNat, Nat.mod_eq_of_lt (by omega)]
    rw [UInt64.toNat_shiftRight, h1, Nat.mod_eq_of_lt hk, BitVec.toNat_ushiftRight]
    rfl
  unfold bb
  rw [e, BitVec.getLsbD_ushiftRight]
/-! COUNTING BITS -/
def cn (f : Nat → Bool) : Nat → Nat
  | 0 => 0
  | n + 1 => cn f n + (f n).toNat
theorem cn_le (f : Nat → Bool) : ∀ n, cn f n ≤ n
  | 0 => Nat.le_refl _
  | n + 1 => by
    have := cn_le f n
    have h2 : (f n).toNat ≤ 1 := by cases f n <;> decide
    show cn f n + _ ≤ _
    omega
theorem cn_congr {f g : Nat → Bool} : ∀ n, (∀ i, i < n → f i = g i) → cn f n = cn g n
  | 0, _ => rfl
  | n + 1, h => by
    show cn f n + _ = cn g n + _
    rw [cn_congr n (fun i hi => h i (by omega)), h n (by omega)]
/-- a number made of fields of w bits -/
def fs (w : Nat) (c : Nat → Nat) : Nat → Nat
  | 0 => 0
  | m + 1 => fs w c m + 2 ^ (w * m) * c m
theorem fs_congr {w : Nat} {c d : Nat → Nat} : ∀ m, (∀ j, j < m → c j = d j) → fs w c m = fs w d m
  | 0, _ => rfl
  | m + 1, h => by
    show fs w c m + _ = fs w d m + _
    rw [fs_congr m (fun j hj => h j (by omega)), h m (by omega)]
theorem fs_add {w : Nat} (c d : Nat → Nat) : ∀ m, fs w c m + fs w d m = fs w (fun j => c j + d j) m
  | 0 => rfl
  | m + 1 => by
    show fs w c m + 2 ^ (w * m) * c m + (fs w d m + 2 ^ (w * m) * d m) = fs w (fun j => c j + d j) m + 2 ^ (w * m) * (c m + d m)
    rw [← fs_add c d m, Nat.mul_add]
    omega
theorem fs_lt {w : Nat} {c : Nat → Nat} : ∀ m, (∀ j, j < m → c j < 2 ^ w) → fs w c m < 2 ^ (w * m)
  | 0, _ => by simp [fs]
  | m + 1, h => by
    have h1 := fs_lt m (fun j hj => h j (by omega))
    have h2 : 2 ^ (w * m) * (c m + 1) ≤ 2 ^ (w * m) * 2 ^ w := Nat.mul_le_mul_left _ (h m (by omega))
    have h3 : 2 ^ (w * (m + 1)) = 2 ^ (w * m) * 2 ^ w := by rw [← Nat.pow_add, Nat.mul_succ]
    rw [h3]
    show fs w c m + 2 ^ (w * m) * c m < _
    rw [Nat.mul_add, Nat.mul_one] at h2
    omega
/-- the bits of such a number -/
theorem fs_bit {w : Nat} {c : Nat → Nat} : ∀ m, (∀ j, j < m → c j < 2 ^ w) → ∀ j t, t < w → (fs w c m).testBit (w * j + t) = (decide (j < m) && (c j).testBit t)
  | 0, _, j, t, _ => by simp [fs]
  | m + 1, h, j, t, ht => by
    have hlt := fs_lt m (fun j hj => h j (Nat.lt_succ_of_lt hj))
    have ih := fs_bit m (fun j hj => h j (Nat.lt_succ_of_lt hj)) j t ht
    show (fs w c m + 2 ^ (w * m) * c m).testBit _ = _
    rw [Nat.add_comm, Nat.testBit_two_pow_mul_add _ hlt]
    by_cases hj : j < m
    · have h1 : w * j + t < w * m := by
        have : w * (j + 1) ≤ w * m := Nat.mul_le_mul_left w hj
        rw [Nat.mul_succ] at this
        omega
      rw [if_pos h1, ih]
      simp [hj, Nat.lt_succ_of_lt hj]
    · have h1 : ¬ w * j + t < w * m := by
        have : w * m ≤ w * j := Nat.mul_le_mul_left w (Nat.le_of_not_lt hj)
        omega
      rw [if_neg h1]
      by_cases e : j = m
      · subst e
        rw [Nat.add_sub_cancel_left]
        simp
      · have h2 : m + 1 ≤ j := by omega
        have h3 : w ≤ w * j + t - w * m := by
          have : w * (m + 1) ≤ w * j := Nat.mul_le_mul_left w h2
          rw [Nat.mul_succ] at this
          omega
        have h4 : (c m).testBit (w * j + t - w * m) = false := Nat.testBit_lt_two_pow (Nat.lt_of_lt_of_le (h m (Nat.lt_succ_self m)) (Nat.pow_le_pow_right (by decide) h3))
        rw [h4]
        simp [Nat.not_lt.mpr h2]
/-- two such numbers of the same bits -/
theorem fs_ext {n w : Nat} {c : Nat → Nat} {m : Nat} (hw : 0 < w) (hc : ∀ j, j < m → c j < 2 ^ w) (h : ∀ j t, t < w → n.testBit (w * j + t) = (decide (j < m) && (c j).testBit t)) : n = fs w c m := by
  apply Nat.eq_of_testBit_eq
  intro i
  have e : i = w * (i / w) + i % w := (Nat.div_add_mod i w).symm
  rw [e, h _ _ (Nat.mod_lt _ hw), fs_bit m hc _ _ (Nat.mod_lt _ hw)]
theorem fs_drop {w : Nat} {c : Nat → Nat} (t : Nat) : ∀ m, (∀ j, j < m + t → c j < 2 ^ w) → fs w c (m + t) / 2 ^ (w * t) = fs w (fun j => c (j + t)) m
  | 0, h => by
    rw [Nat.zero_add] at h ⊢
    exact Nat.div_eq_of_lt (fs_lt t h)
  | m + 1, h => by
    have ih := fs_drop t m (fun j hj => h j (by omega))
    have e : m + 1 + t = m + t + 1 := by omega
    rw [e]
    show (fs w c (m + t) + 2 ^ (w * (m + t)) * c (m + t)) / 2 ^ (w * t) = fs w (fun j => c (j + t)) m + 2 ^ (w * m) * c (m + t)
    have e2 : 2 ^ (w * (m + t)) = 2 ^ (w * t) * 2 ^ (w * m) := by rw [← Nat.pow_add, Nat.mul_add, Nat.add_comm]
    rw [e2, Nat.mul_assoc, Nat.add_mul_div_left _ _ (Nat.two_pow_pos _), ih]
theorem tb_mask (w t : Nat) : (2 ^ w - 1).testBit t = decide (t < w) := Nat.testBit_two_pow_sub_one w t
theorem fs_even {w : Nat} {c : Nat → Nat} {m : Nat} (hw : 0 < w) (hc : ∀ j, j < 2 * m → c j < 2 ^ w) : fs w c (2 * m) &&& fs (2 * w) (fun _ => 2 ^ w - 1) m = fs (2 * w) (fun j => c (2 * j)) m := by
  have hp : 2 ^ w ≤ 2 ^ (2 * w) := Nat.pow_le_pow_right (by decide) (by omega)
  have h0 := Nat.two_pow_pos w
  refine fs_ext (by omega) (fun j hj => Nat.lt_of_lt_of_le (hc _ (by omega)) hp) (fun j t ht => ?_)
  rw [Nat.testBit_and, fs_bit m (fun j _ => by omega) j t ht, tb_mask]
  by_cases h1 : t < w
  · have e : 2 * w * j + t = w * (2 * j) + t := by rw [Nat.mul_comm 2 w, Nat.mul_assoc]
    rw [e, fs_bit (2 * m) hc _ t h1]
    by_cases h2 : j < m
    · have h3 : 2 * j < 2 * m := by omega
      simp [h1, h2, h3]
    · have h3 : ¬ 2 * j < 2 * m := by omega
      simp [h2, h3]
  · by_cases h2 : j < m
    · have h4 : (c (2 * j)).testBit t = false := Nat.testBit_lt_two_pow (Nat.lt_of_lt_of_le (hc _ (by omega)) (Nat.pow_le_pow_right (by decide) (by omega)))
      simp [h1, h4]
    · simp [h2]
theorem fs_odd {w : Nat} {c : Nat → Nat} {m : Nat} (hw : 0 < w) (hc : ∀ j, j < 2 * m → c j < 2 ^ w) : fs w c (2 * m) / 2 ^ w &&& fs (2 * w) (fun _ => 2 ^ w - 1) m = fs (2 * w) (fun j => c (2 * j + 1)) m := by
  have hp : 2 ^ w ≤ 2 ^ (2 * w) := Nat.pow_le_pow_right (by decide) (by omega)
  have h0 := Nat.two_pow_pos w
  by_cases hm : m = 0
  · subst hm; simp [fs]
  refine fs_ext (by omega) (fun j hj => Nat.lt_of_lt_of_le (hc _ (by omega)) hp) (fun j t ht => ?_)
  rw [Nat.testBit_and, fs_bit m (fun j _ => by omega) j t ht, tb_mask, Nat.testBit_div_two_pow]
  by_cases h1 : t < w
  · have e : 2 * w * j + t + w = w * (2 * j + 1) + t := by rw [Nat.mul_add, Nat.mul_one, Nat.mul_comm 2 w, Nat.mul_assoc]; omega
    rw [e, fs_bit (2 * m) hc _ t h1]
    by_cases h2 : j < m
    · have h3 : 2 * j + 1 < 2 * m := by omega
      simp [h1, h2, h3]
    · have h3 : ¬ 2 * j + 1 < 2 * m := by omega
      simp [h2, h3]
  · by_cases h2 : j < m
    · have h4 : (c (2 * j + 1)).testBit t = false := Nat.testBit_lt_two_pow (Nat.lt_of_lt_of_le (hc _ (by omega)) (Nat.pow_le_pow_right (by decide) (by omega)))
      simp [h1, h4]
    · simp [h2]
/-- so many fields down, added -/
theorem fs_down {w : Nat} {c : Nat → Nat} (t m : Nat) (hc : ∀ j, j < m + t → c j < 2 ^ w) : fs w c (m + t) + fs w c (m + t) / 2 ^ (w * t) = fs w (fun j => c j + if j < m then c (j + t) else 0) (m + t) := by
  rw [fs_drop t m hc]
  have e : ∀ u, fs w (fun j => c (j + t)) m = fs w (fun j => if j < m then c (j + t) else 0) (m + u) := by
    intro u
    induction u with
    | zero => exact fs_congr m (fun j hj => by rw [if_pos hj])
    | succ u ih =>
      show _ = fs w _ (m + u) + 2 ^ (w * (m + u)) * (if m + u < m then _ else 0)
      rw [← ih, if_neg (by omega)]
      rfl
  rw [e t, fs_add]
theorem fs_mod {w : Nat} {c : Nat → Nat} : ∀ m, fs w c (m + 1) % 2 ^ w = c 0 % 2 ^ w
  | 0 => by
    show (0 + 2 ^ (w * 0) * c 0) % 2 ^ w = _
    rw [Nat.mul_zero, Nat.pow_zero, Nat.one_mul, Nat.zero_add]
  | m + 1 => by
    show (fs w c (m + 1) + 2 ^ (w * (m + 1)) * c (m + 1)) % 2 ^ w = _
    have e : 2 ^ (w * (m + 1)) * c (m + 1) = 2 ^ w * (2 ^ (w * m) * c (m + 1)) := by rw [← Nat.mul_assoc, ← Nat.pow_add, Nat.mul_succ, Nat.add_comm]
    rw [e, Nat.add_mul_mod_self_left]
    exact fs_mod m
def sm (c : Nat → Nat) : Nat → Nat
  | 0 => 0
  | m + 1 => sm c m + c m
theorem sm_pair (c : Nat → Nat) : ∀ m, sm c (2 * m) = sm (fun j => c (2 * j) + c (2 * j + 1)) m
  | 0 => rfl
  | m + 1 => by
    have e : 2 * (m + 1) = 2 * m + 1 + 1 := by omega
    rw [e]
    show sm c (2 * m) + c (2 * m) + c (2 * m + 1) = sm _ m + (c (2 * m) + c (2 * m + 1))
    rw [sm_pair c m]
    omega
theorem cn_sm (f : Nat → Bool) : ∀ n, cn f n = sm (fun j => (f j).toNat) n
  | 0 => rfl
  | n + 1 => by show cn f n + _ = sm _ n + _; rw [cn_sm f n]
def pp (c : Nat → Nat) (j : Nat) : Nat := c (2 * j) + c (2 * j + 1)
theorem bn_le (b : Bool) : b.toNat ≤ 1 := by cases b <;> decide
/-- the first step of the count, on numbers -/
theorem pc_1 {n : Nat} (hn : n < 2 ^ 64) : n - (n / 2 &&& 0x5555555555555555) = fs 2 (pp fun j => (n.testBit j).toNat) 32 := by
  have hM : 0x5555555555555555 = fs 2 (fun _ => 2 ^ 1 - 1) 32 := by decide +kernel
  have hN : n = fs 1 (fun j => (n.testBit j).toNat) (2 * 32) := by
    refine fs_ext (by decide) (fun j _ => by have := bn_le (n.testBit j); omega) (fun j t ht => ?_)
    have e : t = 0 := by omega
    subst e
    rw [Nat.one_mul, Nat.add_zero]
    by_cases h : j < 2 * 32
    · cases hb : n.testBit j <;> simp [h]
    · have h2 : n.testBit j = false := Nat.testBit_lt_two_pow (Nat.lt_of_lt_of_le hn (Nat.pow_le_pow_right (by decide) (by omega)))
      simp [h, h2]
  have hc : ∀ j, j < 2 * 32 → (fun j => (n.testBit j).toNat) j < 2 ^ 1 := fun j _ => by have := bn_le (n.testBit j); show (n.testBit j).toNat < 2; omega
  have hO : n / 2 &&& 0x5555555555555555 = fs 2 (fun j => (n.testBit (2 * j + 1)).toNat) 32 := by
    have h := fs_odd (w := 1) (c := fun j => (n.testBit j).toNat) (m := 32) (by decide) hc
    rw [← hN] at h
    rw [hM]
    exact h
  have hA : n = fs 2 (fun j => (n.testBit (2 * j)).toNat + (n.testBit (2 * j + 1)).toNat + (n.testBit (2 * j + 1)).toNat) 32 := by
    refine fs_ext (by decide) (fun j _ => by have := bn_le (n.testBit (2 * j)); have := bn_le (n.testBit (2 * j + 1)); omega) (fun j t ht => ?_)
    by_cases h : j < 32
    · have e : t = 0 ∨ t = 1 := by omega
      rcases e with e | e <;> subst e
      · cases h0 : n.testBit (2 * j) <;> cases h1 : n.testBit (2 * j + 1) <;> simp [h, h0] <;> decide
      · cases h0 : n.testBit (2 * j) <;> cases h1 : n.testBit (2 * j + 1) <;> simp [h, h1] <;> decide
    · have h2 : n.testBit (2 * j + t) = false := Nat.testBit_lt_two_pow (Nat.lt_of_lt_of_le hn (Nat.pow_le_pow_right (by decide) (by omega)))
      simp [h, h2]
  rw [hO]
  have h3 := fs_add (w := 2) (fun j => (n.testBit (2 * j)).toNat + (n.testBit (2 * j + 1)).toNat) (fun j => (n.testBit (2 * j + 1)).toNat) 32
  rw [← hA] at h3
  show n - _ = fs 2 (fun j => (n.testBit (2 * j)).toNat + (n.testBit (2 * j + 1)).toNat) 32
  omega
/-- all steps of the count, on numbers -/
theorem pc_all {n : Nat} (hn : n < 2 ^ 64) {a b c d e f : Nat} (ha : a = n - (n / 2 &&& 0x5555555555555555)) (hb : b = (a &&& 0x3333333333333333) + (a / 4 &&& 0x3333333333333333)) (hc : c = (b + b / 16) &&& 0x0f0f0f0f0f0f0f0f) (hd : d = c + c / 256) (he : e = d + d / 65536) (hf : f = e + e / 4294967296) :
    f % 256 = cn n.testBit 64 ∧ a < 2 ^ 64 ∧ b < 2 ^ 64 ∧ b + b / 16 < 2 ^ 64 ∧ c < 2 ^ 64 ∧ d < 2 ^ 64 ∧ e < 2 ^ 64 ∧ f < 2 ^ 64 := by
  let q0 : Nat → Nat := fun j => (n.testBit j).toNat
  have b0 : ∀ j, q0 j ≤ 1 := fun j => bn_le _
  have b1 : ∀ j, pp q0 j ≤ 2 := fun j => by have := b0 (2 * j); have := b0 (2 * j + 1); show q0 _ + q0 _ ≤ _; omega
  have b2 : ∀ j, pp (pp q0) j ≤ 4 := fun j => by have := b1 (2 * j); have := b1 (2 * j + 1); show pp q0 _ + pp q0 _ ≤ _; omega
  have b3 : ∀ j, pp (pp (pp q0)) j ≤ 8 := fun j => by have := b2 (2 * j); have := b2 (2 * j + 1); show pp (pp q0) _ + pp (pp q0) _ ≤ _; omega
  have hA : a = fs 2 (pp q0) (2 * 16) := ha.trans (pc_1 hn)
  have l1 : ∀ j, j < 2 * 16 → pp q0 j < 2 ^ 2 := fun j _ => by have := b1 j; omega
  have hM2 : 0x3333333333333333 = fs (2 * 2) (fun _ => 2 ^ 2 - 1) 16 := by decide +kernel
  have hB : b = fs 4 (pp (pp q0)) 16 := by
    have h1 := fs_even (w := 2) (m := 16) (by decide) l1
    have h2 := fs_odd (w := 2) (m := 16) (by decide) l1
    rw [← hA, ← hM2] at h1 h2
    rw [hb]
    have h3 : a / 4 = a / 2 ^ 2 := rfl
    rw [h3, h1, h2, fs_add]
    rfl
  have l2 : ∀ j, j < 15 + 1 → pp (pp q0) j < 2 ^ 4 := fun j _ => by have := b2 j; omega
  have hB2 : b + b / 16 = fs 4 (fun j => pp (pp q0) j + if j < 15 then pp (pp q0) (j + 1) else 0) (2 * 8) := by
    rw [hB]
    exact fs_down 1 15 l2
  have l3 : ∀ j, j < 2 * 8 → (fun j => pp (pp q0) j + if j < 15 then pp (pp q0) (j + 1) else 0) j < 2 ^ 4 := fun j _ => by
    have := b2 j
    have := b2 (j + 1)
    show _ + (if j < 15 then _ else 0) < _
    split <;> omega
  have hM3 : 0x0f0f0f0f0f0f0f0f = fs (2 * 4) (fun _ => 2 ^ 4 - 1) 8 := by decide +kernel
  have hC : c = fs 8 (pp (pp (pp q0))) (7 + 1) := by
    have h1 := fs_even (w := 4) (m := 8) (by decide) l3
    rw [← hB2, ← hM3] at h1
    rw [hc, h1]
    refine fs_congr 8 (fun j hj => ?_)
    show pp (pp q0) (2 * j) + (if 2 * j < 15 then pp (pp q0) (2 * j + 1) else 0) = _
    rw [if_pos (by omega)]
    rfl
  let p := pp (pp (pp q0))
  have hD : d = fs 8 (fun j => p j + if j < 7 then p (j + 1) else 0) (6 + 2) := by
    rw [hd, hC]
    exact fs_down 1 7 (fun j _ => by have : p j ≤ 8 := b3 j; show p j < 2 ^ 8; omega)
  let q : Nat → Nat := fun j => p j + if j < 7 then p (j + 1) else 0
  have bq : ∀ j, q j ≤ 16 := fun j => by
    have : p j ≤ 8 := b3 j
    have : p (j + 1) ≤ 8 := b3 (j + 1)
    show p j + (if j < 7 then p (j + 1) else 0) ≤ _
    split <;> omega
  have hE : e = fs 8 (fun j => q j + if j < 6 then q (j + 2) else 0) (4 + 4) := by
    rw [he, hD]
    exact fs_down 2 6 (fun j _ => by have := bq j; show q j < _; omega)
  let r : Nat → Nat := fun j => q j + if j < 6 then q (j + 2) else 0
  have br : ∀ j, r j ≤ 32 := fun j => by
    have := bq j
    have := bq (j + 2)
    show q j + (if j < 6 then q (j + 2) else 0) ≤ _
    split <;> omega
  have hF : f = fs 8 (fun j => r j + if j < 4 then r (j + 4) else 0) 8 := by
    rw [hf, hE]
    exact fs_down 4 4 (fun j _ => by have := br j; show r j < _; omega)
  have bf : ∀ j, (fun j => r j + if j < 4 then r (j + 4) else 0) j < 2 ^ 8 := fun j => by
    have := br j
    have := br (j + 4)
    show r j + (if j < 4 then r (j + 4) else 0) < _
    split <;> omega
  have hsum : f % 256 = r 0 + r 4 := by
    rw [hF]
    have h1 : fs 8 (fun j => r j + if j < 4 then r (j + 4) else 0) 8 % 256 = (r 0 + r 4) % 256 := fs_mod (w := 8) (c := fun j => r j + if j < 4 then r (j + 4) else 0) 7
    have := br 0
    have := br 4
    rw [h1]
    omega
  have htot : cn n.testBit 64 = r 0 + r 4 := by
    rw [cn_sm, show (64 : Nat) = 2 * 32 from rfl, sm_pair, show (32 : Nat) = 2 * 16 from rfl, sm_pair, show (16 : Nat) = 2 * 8 from rfl, sm_pair]
    show sm p 8 = r 0 + r 4
    show 0 + p 0 + p 1 + p 2 + p 3 + p 4 + p 5 + p 6 + p 7 = (p 0 + p 1 + (p 2 + p 3)) + (p 4 + p 5 + (p 6 + p 7))
    omega
  refine ⟨hsum.trans htot.symm, ?_, ?_, ?_, ?_, ?_, ?_, ?_⟩
  · rw [hA]; exact fs_lt 32 l1
  · rw [hB]; exact fs_lt 16 l2
  · rw [hB2]; exact fs_lt 16 l3
  · rw [hC]; exact fs_lt 8 (fun j _ => by have : p j ≤ 8 := b3 j; show p j < 2 ^ 8; omega)
  · rw [hD]; exact fs_lt 8 (fun j _ => by have := bq j; show q j < _; omega)
  · rw [hE]; exact fs_lt 8 (fun j _ => by have := br j; show r j < _; omega)
  · rw [hF]; exact fs_lt 8 (fun j _ => bf j)
/-! the lowest bit, the lowest run -/
theorem low_of : ∀ n : Nat, n ≠ 0 → ∃ p u, n = 2 ^ p * (2 * u + 1) := by
  intro n
  induction n using Nat.strongRecOn with
  | _ n ih =>
    intro h
    rcases Nat.mod_two_eq_zero_or_one n with e | e
    · obtain ⟨p, u, hp⟩ := ih (n / 2) (by omega) (by omega)
      refine ⟨p + 1, u, ?_⟩
      have h2 : n = 2 * (n / 2) := by omega
      rw [h2, hp, Nat.pow_succ, Nat.mul_comm (2 ^ p) 2, Nat.mul_assoc]
    · exact ⟨0, n / 2, by rw [Nat.pow_zero, Nat.one_mul]; omega⟩
theorem tb_odd (u i : Nat) : (2 * u + 1).testBit i = if i = 0 then true else u.testBit (i - 1) := by
  cases i with
  | zero => rw [if_pos rfl, Nat.testBit_zero]; simp
  | succ i =>
    rw [if_neg (by omega), Nat.testBit_succ, Nat.add_sub_cancel]
    congr 1
    omega
theorem tb_low (p u i : Nat) : (2 ^ p * (2 * u + 1)).testBit i = (decide (p ≤ i) && if i = p then true else u.testBit (i - p - 1)) := by
  rw [Nat.testBit_two_pow_mul, tb_odd]
  by_cases h : p ≤ i
  · by_cases e : i = p
    · subst e; simp
    · have e2 : ¬ i - p = 0 := by omega
      simp [h, e, e2]
  · simp [h]
theorem low_lt {p u m : Nat} (h : 2 ^ p * (2 * u + 1) < 2 ^ m) : p < m ∧ u < 2 ^ (m - p - 1) := by
  have h1 : p < m := by
    rcases Nat.lt_or_ge p m with h1 | h1
    · exact h1
    · have h2 : 2 ^ m ≤ 2 ^ p := Nat.pow_le_pow_right (by decide) h1
      have h3 : 2 ^ p * 1 ≤ 2 ^ p * (2 * u + 1) := Nat.mul_le_mul_left _ (by omega)
      omega
  refine ⟨h1, ?_⟩
  have e : 2 ^ m = 2 ^ p * (2 * 2 ^ (m - p - 1)) := by
    rw [← Nat.pow_succ', ← Nat.pow_add]
    congr 1
    omega
  rw [e] at h
  have := Nat.lt_of_mul_lt_mul_left h
  omega
/-- minus n -/
theorem low_neg {p u : Nat} (h : 2 ^ p * (2 * u + 1) < 2 ^ 64) : 2 ^ 64 - 2 ^ p * (2 * u + 1) = 2 ^ p * (2 * (2 ^ (64 - p - 1) - (u + 1)) + 1) := by
  obtain ⟨h1, h2⟩ := low_lt h
  have e : 2 ^ 64 = 2 ^ p * (2 * 2 ^ (64 - p - 1)) := by
    rw [← Nat.pow_succ', ← Nat.pow_add]
    congr 1
    omega
  rw [e, ← Nat.mul_sub]
  congr 1
  omega
theorem low_and {n p u : Nat} (hn : n = 2 ^ p * (2 * u + 1)) (h : n < 2 ^ 64) : n &&& (2 ^ 64 - n) = 2 ^ p := by
  subst hn
  obtain ⟨h1, h2⟩ := low_lt h
  rw [low_neg h]
  apply Nat.eq_of_testBit_eq
  intro i
  rw [Nat.testBit_and, tb_low, tb_low, Nat.testBit_two_pow]
  by_cases e : i = p
  · subst e; simp
  · have e2 : ¬ p = i := fun q => e q.symm
    rw [if_neg e, if_neg e, Nat.testBit_two_pow_sub_succ h2]
    simp only [e2, decide_false]
    cases decide (p ≤ i) <;> cases u.testBit (i - p - 1) <;> simp
theorem low_clear {n p u : Nat} (hn : n = 2 ^ p * (2 * u + 1)) (i : Nat) : (n &&& (n - 1)).testBit i = (n.testBit i && !decide (i = p)) := by
  have hp := Nat.two_pow_pos p
  have e1 : n - 1 = 2 ^ p * (2 * u) + (2 ^ p - 1) := by
    rw [hn, Nat.mul_add, Nat.mul_one]
    omega
  rw [Nat.testBit_and, e1, Nat.testBit_two_pow_mul_add _ (by omega), hn, tb_low]
  by_cases h : i < p
  · have h2 : ¬ p ≤ i := by omega
    simp [h2]
  · rw [if_neg h]
    by_cases e : i = p
    · subst e
      simp
    · have e2 : i - p = (i - p - 1) + 1 := by omega
      rw [e2, Nat.testBit_succ, show 2 * u / 2 = u by omega, ← e2]
      have e3 : p ≤ i := by omega
      have e4 : i - p - 1 + 1 - 1 = i - p - 1 := by omega
      simp [e, e3]
/-- the lowest run of bits: p .. q - 1 -/
theorem run_of {n : Nat} (h0 : n ≠ 0) (h : n < 2 ^ 64) : ∃ p q, p < q ∧ q ≤ 64 ∧ (∀ i, i < p → n.testBit i = false) ∧ (∀ i, p ≤ i → i < q → n.testBit i = true) ∧ n.testBit q = false ∧ n &&& (2 ^ 64 - n) = 2 ^ p ∧
    ∀ i, i < 64 → (n.testBit i && !((n + 2 ^ p) % 2 ^ 64).testBit i) = decide (p ≤ i ∧ i < q) := by
  obtain ⟨p, u, hn⟩ := low_of n h0
  obtain ⟨r, t, hr⟩ := low_of (2 * u + 1 + 1) (by omega)
  have hr0 : 0 < r := by
    rcases Nat.eq_zero_or_pos r with e | e
    · subst e
      rw [Nat.pow_zero, Nat.one_mul] at hr
      omega
    · exact e
  have hp := Nat.two_pow_pos p
  have hpr := Nat.two_pow_pos r
  -- n + 2^p
  have hs : n + 2 ^ p = 2 ^ (p + r) * (2 * t + 1) := by
    rw [hn, Nat.pow_add, Nat.mul_assoc, ← hr, Nat.mul_add (2 ^ p) (2 * u + 1) 1, Nat.mul_one]
  have hnb : n = 2 ^ (p + r) * (2 * t) + 2 ^ p * (2 ^ r - 1) := by
    have e1 : 2 ^ p * (2 ^ r - 1) = 2 ^ (p + r) - 2 ^ p := by rw [Nat.mul_sub, Nat.mul_one, ← Nat.pow_add]
    have e2 : 2 ^ p ≤ 2 ^ (p + r) := Nat.pow_le_pow_right (by decide) (by omega)
    rw [Nat.mul_add, Nat.mul_one] at hs
    omega
  have hq : p + r ≤ 64 := by
    rcases Nat.lt_or_ge 64 (p + r) with e | e
    · have e1 : 2 ^ (p + r) ≤ 2 ^ (p + r) * (2 * t + 1) := Nat.le_mul_of_pos_right _ (by omega)
      have e2 : 2 ^ 65 ≤ 2 ^ (p + r) := Nat.pow_le_pow_right (by decide) e
      have e3 : 2 ^ p ≤ n := by rw [hn]; exact Nat.le_mul_of_pos_right _ (by omega)
      omega
    · exact e
  have hlow : 2 ^ p * (2 ^ r - 1) < 2 ^ (p + r) := by
    rw [Nat.pow_add]
    exact Nat.mul_lt_mul_of_pos_left (by omega) hp
  have hbit : ∀ i, n.testBit i = if i < p + r then decide (p ≤ i) else (2 * t).testBit (i - (p + r)) := by
    intro i
    rw [hnb, Nat.testBit_two_pow_mul_add _ hlow]
    by_cases hi : i < p + r
    · rw [if_pos hi, if_pos hi, Nat.testBit_two_pow_mul, Nat.testBit_two_pow_sub_one]
      by_cases h2 : p ≤ i
      · have h3 : i - p < r := by omega
        simp [h2, h3]
      · simp [h2]
    · rw [if_neg hi, if_neg hi]
  have hsb : ∀ i, i < 64 → ((n + 2 ^ p) % 2 ^ 64).testBit i = if i < p + r then false else if i = p + r then true else t.testBit (i - (p + r) - 1) := by
    intro i hi
    rw [Nat.testBit_mod_two_pow, hs, tb_low]
    simp only [hi, decide_true, Bool.true_and]
    by_cases h1 : i < p + r
    · have h2 : ¬ p + r ≤ i := by omega
      simp [h1, h2]
    · have h2 : p + r ≤ i := by omega
      simp [h1, h2]
  refine ⟨p, p + r, by omega, hq, fun i hi => ?_, fun i h1 h2 => ?_, ?_, low_and hn h, fun i hi => ?_⟩
  · rw [hbit, if_pos (by omega)]
    simp; omega
  · rw [hbit, if_pos h2]
    simp [h1]
  · rw [hbit, if_neg (by omega), Nat.sub_self, Nat.testBit_zero]
    simp
  · rw [hbit, hsb i hi]
    by_cases h1 : i < p + r
    · simp [h1]
    · by_cases h2 : i = p + r
      · subst h2; simp
      · have h3 : i - (p + r) = (i - (p + r) - 1) + 1 := by omega
        rw [if_neg h1, if_neg h1, if_neg h2, h3, Nat.testBit_succ, show 2 * t / 2 = t by omega, ← h3]
        have h4 : i - (p + r) - 1 + 1 - 1 = i - (p + r) - 1 := by omega
        simp [h1]
