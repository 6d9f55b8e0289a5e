/-! what a throw finds -/
def tw_ok (own : String) (ik ic ci : Nat) : Prop := Bundle.fit (hp_exn ci) = true ∧ Jvm.Cond.classLink own ik (hp_exn ci) ∈ hp_Ts ∧ Jvm.Cond.initialized (hp_exn ci) ∈ hp_Ts ∧ ∀ w ∈ Bundle.ownAtoms own ic (hp_exn ci) hp_ups, w ∈ hp_Ts
theorem tw_li : tw_ok "EdgeSweeps$Lines" 49 53 0 := by
  refine ⟨by decide +kernel, by decide +kernel, by decide +kernel, by decide +kernel⟩
theorem hq_throw {T : hp_T} {Y : hp_Y} {l : Launch} {w0 : Bool} {dk dn : Nat} {Q : hp_R → hp_H → Prop} {G : hp_G} (V : hp_val T Y) (C : hp_ctx T Y l w0 dk dn Q G) {ik is ic ci pc : Nat} {text : String} {lv : hp_L} {h : hp_H}
    (hw : tw_ok (t_own T) ik ic ci) (hstr : (t_own T, is, text) ∈ hp_strs) (e0 : hp_lk (t_code T) pc = some (.new ik)) (e3 : hp_lk (t_code T) (pc + 3) = some .dup) (e4 : hp_lk (t_code T) (pc + 4) = some (.ldc is)) (e6 : hp_lk (t_code T) (pc + 6) = some (.invokespecial ic)) (e9 : hp_lk (t_code T) (pc + 9) = some .athrow)
    (hnil : y_hd Y = []) (hfr : 5 < y_fr Y) (hlo : 82 ≤ y_lo Y) (hdk : 1 ≤ dk) (hdn : 6 ≤ dn) (hi : Q (.inr ci) h) : hp_W G pc lv [] h true 0 0 :=
  hs_throw C hw.1 hw.2.1 hw.2.2.1 hstr hw.2.2.2 (hq_dec V e0 rfl) (hq_dec V e3 rfl) (hq_dec V e4 rfl) (hq_dec V e6 rfl) (hq_dec V e9 rfl) hnil hfr (by show 0 + 82 ≤ _; omega) hdk hdn hi
theorem bit_0 {k : Nat} (hk : k < 64) (x : Int64) : ((x.toUInt64 >>> ((nI k).toInt64.toUInt64 &&& Int64.toUInt64 63)).toInt64 &&& 1) = 0 ↔ bb x k = false := by
  constructor
  · intro h
    have e : bb ((x.toUInt64 >>> ((nI k).toInt64.toUInt64 &&& Int64.toUInt64 63)).toInt64 &&& 1) 0 = bb 0 0 := by rw [h]
    rw [bb_and, bb_shr hk, bb_0, Nat.add_zero, show bb 1 0 = true from by decide, Bool.and_true] at e
    exact e
  · intro h
    refine bb_ext (fun i hi => ?_)
    rw [bb_and, bb_shr hk, bb_0]
    rcases Nat.eq_zero_or_pos i with q | q
    · rw [q, Nat.add_zero, h]; rfl
    · have e : bb 1 i = false := by
        rw [← nn_bit, nn_1]
        cases hq : Nat.testBit 1 i with
        | false => rfl
        | true => exact absurd (Nat.testBit_one_eq_true_iff_self_eq_zero.mp hq) (by omega)
      rw [e, Bool.and_false]
def xlf (f : Nat → Int64) (y x what : Nat) : Int32 := match what with
  | 0 => nI x
  | 2 => nI (xre (if bb (xab f y) x then xab f y else xbe f y) x)
  | 4 => if bb (xab f y) x then 1 else -1
  | _ => nI y
set_option maxRecDepth 20000 in
theorem c_li_lyingFactAt (l : Launch) (h : hp_H) (a y x what : Nat) (hy : y < 2 ^ 31) (hx : x < 64) (hw : what < 5) (f : Nat → Int64) (ha : h[a]? = some (LA 64 f)) :
    hp_M l Y_li_lyingFactAt [.ref a, .int (nI y), .int (nI x), .int (nI what)] h true 0 0 (hq_P (.inl (some (.int (xlf f y x what)))) h) := by
  refine hp_start (T := T_li_lyingFactAt) (by decide) rfl (fun σ => Nat.le_of_ble_eq_true rfl) (fun G C => ?_)
  have tail : ∀ b : Bool, b = bb (xab f y) x → hp_W G 23 [(0, .ref a), (1, .int (nI y)), (2, .int (nI x)), (3, .int (nI what)), (4, .long (xab f y))] [.int (zI b)] h true 0 0 := by
    intro b hb
    refine hp_run_sound hp_co V_li_lyingFactAt C (fun _ _ _ _ _ _ _ hq => hq) [] 20 _ _ _ _ _ _ _ ?_
    have ht : (nI what).toInt = (what : Int) := nI_toInt (by omega)
    refine And.intro (fun q => absurd q (by rw [ht]; omega)) (And.intro (fun q => ?_) (And.intro (fun q => ?_) (And.intro (fun q => ?_) (And.intro (fun q => ?_) (And.intro (fun q => ?_) trivial)))))
    · have e : what = 0 := by rw [ht] at q; omega
      subst e
      exact And.intro rfl (And.intro rfl (And.intro rfl rfl))
    · have e : what = 1 := by rw [ht] at q; omega
      subst e
      exact And.intro rfl (And.intro rfl (And.intro rfl rfl))
    · have e : what = 2 := by rw [ht] at q; omega
      subst e
      refine And.intro (fun c => ?_) (fun c => ?_)
      · have hb2 : b = false := (zI_eq b).mp c
        refine ic_P (c_li_areaBelow l h a y hy f ha) (Nat.le_refl _) (Nat.le_refl _) ?_
        refine ic_P (c_ro_runEnd l h _ x) (Nat.le_refl _) (Nat.le_refl _) ?_
        refine And.intro rfl (And.intro rfl (And.intro ?_ rfl))
        unfold xlf
        rw [← hb, hb2]
        rfl
      · have hb2 : b = true := by
          cases b with
          | true => rfl
          | false => exact absurd rfl c
        refine ic_P (c_ro_runEnd l h _ x) (Nat.le_refl _) (Nat.le_refl _) ?_
        refine And.intro rfl (And.intro rfl (And.intro ?_ rfl))
        unfold xlf
        rw [← hb, hb2]
        rfl
    · have e : what = 3 := by rw [ht] at q; omega
      subst e
      exact And.intro rfl (And.intro rfl (And.intro rfl rfl))
    · have e : what = 4 := by rw [ht] at q; omega
      subst e
      refine And.intro (fun c => ?_) (fun c => ?_)
      · have hb2 : b = false := (zI_eq b).mp c
        refine And.intro rfl (And.intro rfl (And.intro ?_ rfl))
        unfold xlf
        rw [← hb, hb2]
        rfl
      · have hb2 : b = true := by
          cases b with
          | true => rfl
          | false => exact absurd rfl c
        refine And.intro rfl (And.intro rfl (And.intro ?_ rfl))
        unfold xlf
        rw [← hb, hb2]
        rfl
  refine hp_run_sound hp_co V_li_lyingFactAt C (fun _ _ _ _ _ _ _ hq => hq) [23] 20 _ _ _ _ _ _ _ ?_
  refine ic_P (c_li_areaAbove l h a y hy f ha) (Nat.le_refl _) (Nat.le_refl _) ?_
  refine And.intro (fun c => ?_) (fun c => ?_)
  · have hb := (bit_0 hx _).mp ((lg_cmp_eq _ _).mp c)
    exact tail false hb.symm
  · have hb : bb (xab f y) x = true := by
      cases hq : bb (xab f y) x with
      | true => rfl
      | false => exact absurd ((lg_cmp_eq _ _).mpr ((bit_0 hx _).mpr hq)) c
    exact tail true hb.symm
set_option maxRecDepth 20000 in
theorem c_li_turnedFact (l : Launch) (h : hp_H) (w : Nat) (hw : w < 5) : hp_M l Y_li_turnedFact [.int (nI w)] h true 0 0 (hq_P (.inl (some (.int (nI (match w with | 0 => 1 | 1 => 0 | 2 => 3 | 3 => 2 | w => w))))) h) := by
  refine hp_start (T := T_li_turnedFact) (by decide) rfl (fun σ => Nat.le_of_ble_eq_true rfl) (fun G C => ?_)
  refine hp_run_sound hp_co V_li_turnedFact C (fun _ _ _ _ _ _ _ hq => hq) [] 20 _ _ _ _ _ _ _ ?_
  have ht : (nI w).toInt = (w : Int) := nI_toInt (by omega)
  refine And.intro (fun q => ?_) (And.intro (fun q => ?_) (And.intro (fun q => ?_) (And.intro (fun q => ?_) (And.intro (fun q => ?_) trivial))))
  · have e : w = 4 := by rw [ht] at q; omega
    subst e
    exact And.intro rfl (And.intro rfl (And.intro rfl rfl))
  · have e : w = 0 := by rw [ht] at q; omega
    subst e
    exact And.intro rfl (And.intro rfl (And.intro rfl rfl))
  · have e : w = 1 := by rw [ht] at q; omega
    subst e
    exact And.intro rfl (And.intro rfl (And.intro rfl rfl))
  · have e : w = 2 := by rw [ht] at q; omega
    subst e
    exact And.intro rfl (And.intro rfl (And.intro rfl rfl))
  · have e : w = 3 := by rw [ht] at q; omega
    subst e
    exact And.intro rfl (And.intro rfl (And.intro rfl rfl))
/-! sums and counts -/
theorem sm_s (f : Nat → Nat) (n : Nat) : sm f (n + 1) = sm f n + f n := rfl
theorem sm_mono (f : Nat → Nat) : ∀ {a b : Nat}, a ≤ b → sm f a ≤ sm f b := by
  intro a b h
  induction b with
  | zero => rw [Nat.le_zero.mp h]; exact Nat.le_refl _
  | succ b ih =>
    rcases Nat.lt_or_ge a (b + 1) with q | q
    · exact Nat.le_trans (ih (by omega)) (Nat.le_add_right _ _)
    · rw [show a = b + 1 by omega]; exact Nat.le_refl _
theorem sm_le {f : Nat → Nat} {c : Nat} (h : ∀ i, f i ≤ c) : ∀ n, sm f n ≤ n * c
  | 0 => Nat.zero_le _
  | n + 1 => by
    rw [sm_s, Nat.succ_mul]
    exact Nat.add_le_add (sm_le h n) (h n)
theorem lyn_le (f : Nat → Int64) {y : Nat} (h : y ≤ 65) : lyn f y ≤ 4160 := Nat.le_trans (sm_mono _ h) (sm_le (fun i => cn_le _ 64) 65)
theorem lyn_s (f : Nat → Int64) (y : Nat) : lyn f (y + 1) = lyn f y + cn (bb (xls f y)) 64 := rfl
theorem cn_in {g : Nat → Bool} {x n : Nat} (h : x < n) (hx : g x = true) : cn g x < cn g n := by
  have h1 : cn g (x + 1) ≤ cn g n := cn_mono g h
  rw [cn_s, hx] at h1
  exact h1
set_option maxRecDepth 20000 in
theorem c_li_lyingFact (l : Launch) (h : hp_H) (a y x what : Nat) (hy : y ≤ 64) (hx : x < 64) (hw : what < 5) (f : Nat → Int64) (ha : h[a]? = some (LA 64 f)) (hb : bb (xls f y) x = true) :
    hp_M l Y_li_lyingFact [.ref a, .int (nI (lyn f y + cn (bb (xls f y)) x)), .int (nI what)] h true 0 0 (hq_P (.inl (some (.int (xlf f y x what)))) h) := by
  refine hp_start (T := T_li_lyingFact) (by decide) rfl (fun σ => Nat.le_of_ble_eq_true rfl) (fun G C => ?_)
  generalize hk : lyn f y + cn (bb (xls f y)) x = k
  have hk2 : k < 5000 := by
    have h1 := lyn_le f (y := y) (by omega)
    have h2 := cn_le (bb (xls f y)) x
    omega
  have key : ∀ (m i : Nat), i + m = y → hp_W G 5 [(0, .ref a), (1, .int (nI k)), (2, .int (nI what)), (3, .int (nI (k - lyn f i))), (4, .int (nI i))] [] h true 0 0 := by
    intro m
    induction m with
    | zero =>
      intro i hi
      have e : i = y := by omega
      subst e
      have hc := cn_in hx hb
      have e2 : k - lyn f i = cn (bb (xls f i)) x := by omega
      have h4 := cn_le (bb (xls f i)) 64
      refine hp_run_sound hp_co V_li_lyingFact C (fun _ _ _ _ _ _ _ hq => hq) [5] 40 _ _ _ _ _ _ _ ?_
      refine And.intro (fun c => absurd c (nI_nlt (b := i) (a := 64) (by omega) (by decide))) (fun c => And.intro (fun c => absurd c (nI_pos (by omega))) (fun c => ?_))
      refine ic_P (c_li_lyingStarts l h a i (by omega) f ha) (Nat.le_refl _) (Nat.le_refl _) ?_
      refine ic_P (c_jl_bitCount l h _) (Nat.le_refl _) (Nat.le_refl _) ?_
      refine And.intro (fun c => absurd c (nI_ge (by omega) (by omega))) (fun c => ?_)
      rw [e2]
      refine ic_P (c_ro_placeOf l h _ _ (by omega)) (Nat.le_refl _) (Nat.le_refl _) ?_
      rw [xpl_is hx hb rfl]
      refine ic_P (c_li_lyingFactAt l h a i x what (by omega) hx hw f ha) (Nat.le_refl _) (Nat.le_refl _) ?_
      exact And.intro rfl (And.intro rfl (And.intro rfl rfl))
    | succ m ih =>
      intro i hi
      have h1 : lyn f (i + 1) ≤ lyn f y := sm_mono _ (by omega)
      have h2 := lyn_s f i
      have h4 := cn_le (bb (xls f i)) 64
      refine hp_run_sound hp_co V_li_lyingFact C (fun _ _ _ _ _ _ _ hq => hq) [5] 40 _ _ _ _ _ _ _ ?_
      refine And.intro (fun c => absurd c (nI_nlt (b := i) (a := 64) (by omega) (by decide))) (fun c => And.intro (fun c => absurd c (nI_pos (by omega))) (fun c => ?_))
      refine ic_P (c_li_lyingStarts l h a i (by omega) f ha) (Nat.le_refl _) (Nat.le_refl _) ?_
      refine ic_P (c_jl_bitCount l h _) (Nat.le_refl _) (Nat.le_refl _) ?_
      refine And.intro (fun c => ?_) (fun c => absurd (nI_le (by omega) (by omega)) c)
      have hW := ih (i + 1) (by omega)
      have e : nI (k - lyn f (i + 1)) = nI (k - lyn f i) - nI (cn (bb (xls f i)) 64) := by
        rw [pk_sub (by omega), h2, Nat.sub_sub]
      rw [← nI_1 i, e] at hW
      refine hp_W_pick [0, 1, 2, 3, 4] ?_
      exact hW
  have h0 := key y 0 (by omega)
  refine hp_run_sound hp_co V_li_lyingFact C (fun _ _ _ _ _ _ _ hq => hq) [5] 8 _ _ _ _ _ _ _ ?_
  exact h0
set_option maxRecDepth 20000 in
theorem c_li_lyingFact_no (l : Launch) (h : hp_H) (a what : Nat) (k : Int32) (f : Nat → Int64) (ha : h[a]? = some (LA 64 f)) (hk : k < 0 ∨ nI (lyn f 65) ≤ k) :
    hp_M l Y_li_lyingFact [.ref a, .int k, .int (nI what)] h true 1 6 (hq_P (.inr 0) h) := by
  refine hp_start (T := T_li_lyingFact) (by decide) rfl (fun σ => Nat.le_of_ble_eq_true rfl) (fun G C => ?_)
  have thr : ∀ lv, hp_W G 62 lv [] h true 0 0 := fun lv => hq_throw (ik := 49) (is := 51) (ic := 53) (ci := 0) (text := "no such edge") V_li_lyingFact C tw_li (by decide) rfl rfl rfl rfl rfl rfl (by decide) (by decide) (by decide) (by decide) ⟨rfl, rfl⟩
  by_cases hk0 : k < 0
  · refine hp_run_sound hp_co V_li_lyingFact C (fun _ _ _ _ _ _ _ hq => hq) [62] 20 _ _ _ _ _ _ _ ?_
    refine And.intro (fun c => thr _) (fun c => And.intro (fun c => thr _) (fun c => absurd hk0 c))
  · obtain ⟨q, hq1, hq2⟩ := nI_of hk0
    subst hq2
    have hq : lyn f 65 ≤ q := by
      rcases hk with e | e
      · exact absurd e hk0
      · exact (nI_leI (by have := lyn_le f (y := 65) (by omega); omega) hq1).mp e
    have key : ∀ (m i : Nat), i + m = 65 → hp_W G 5 [(0, .ref a), (1, .int (nI q)), (2, .int (nI what)), (3, .int (nI (q - lyn f i))), (4, .int (nI i))] [] h true 0 0 := by
      intro m
      induction m with
      | zero =>
        intro i hi
        have e : i = 65 := by omega
        subst e
        refine hp_run_sound hp_co V_li_lyingFact C (fun _ _ _ _ _ _ _ hq => hq) [62] 40 _ _ _ _ _ _ _ ?_
        refine And.intro (fun c => thr _) (fun c => absurd (nI_lt (show 64 < 65 by decide) (by decide)) c)
      | succ m ih =>
        intro i hi
        have h1 : lyn f (i + 1) ≤ lyn f 65 := sm_mono _ (by omega)
        have h2 := lyn_s f i
        have h4 := cn_le (bb (xls f i)) 64
        refine hp_run_sound hp_co V_li_lyingFact C (fun _ _ _ _ _ _ _ hq => hq) [5, 62] 40 _ _ _ _ _ _ _ ?_
        refine And.intro (fun c => absurd c (nI_nlt (b := i) (a := 64) (by omega) (by decide))) (fun c => And.intro (fun c => absurd c (nI_pos (by omega))) (fun c => ?_))
        refine ic_P (c_li_lyingStarts l h a i (by omega) f ha) (Nat.le_add_left _ _) (Nat.le_add_left _ _) ?_
        refine ic_P (c_jl_bitCount l h _) (Nat.le_add_left _ _) (Nat.le_add_left _ _) ?_
        refine And.intro (fun c => ?_) (fun c => absurd (nI_le (by omega) (by omega)) c)
        have hW := ih (i + 1) (by omega)
        have e : nI (q - lyn f (i + 1)) = nI (q - lyn f i) - nI (cn (bb (xls f i)) 64) := by
          rw [pk_sub (by omega), h2, Nat.sub_sub]
        rw [← nI_1 i, e] at hW
        refine hp_W_pick [0, 1, 2, 3, 4] ?_
        exact hW
    have h0 := key 65 0 (by omega)
    refine hp_run_sound hp_co V_li_lyingFact C (fun _ _ _ _ _ _ _ hq => hq) [5] 8 _ _ _ _ _ _ _ ?_
    exact h0
