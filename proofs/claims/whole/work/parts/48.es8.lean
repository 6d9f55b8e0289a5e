/-! size; op 0 to 3 -/
def updR (D : Nat → Nat → Int64) (m : Nat) (R : Nat → Int64) : Nat → Nat → Int64 := fun i => if i = m then R else D i
theorem updR_s (D : Nat → Nat → Int64) (m : Nat) (R : Nat → Int64) : updR D m R m = R := if_pos rfl
theorem updR_n (D : Nat → Nat → Int64) {m i : Nat} (R : Nat → Int64) (h : i ≠ m) : updR D m R i = D i := if_neg h
/-- a call that makes a layer whose squares are those of sp -/
def clsD (l : Launch) (Y : hp_Y) (av : List Value) (s : St) (sp : Nat → Nat → Bool) : Prop := ∀ h, esS h s → hp_M l Y (.ref 1 :: av) h false 1 6 (fun r h' => r = .inl (some (.int (nI (s_B s + s_m s)))) ∧ hxC h h' ∧ ∃ R, (∀ y x, y < 64 → x < 64 → bb (R y) x = sp x y) ∧ esS h' (St' (s_B s) (s_m s + 1) (s_n s) (s_c s) (s_lay s) (s_k s) (s_X s) (s_Y s) (updR (s_D s) (s_m s) R)))
/-- a made layer's rows are put -/
theorem esS_m {h : hp_H} {s : St} (hS : esS h s) {m : Nat} (hm : m < 24) (R : Nat → Int64) : esS (h.set (41 + m) (LA 64 R)) (St' (s_B s) (s_m s) (s_n s) (s_c s) (s_lay s) (s_k s) (s_X s) (s_Y s) (updR (s_D s) m R)) := by
  obtain ⟨a1, a2, a3, a4, a5⟩ := hS
  have x1 : hx [41 + m] h (h.set (41 + m) (LA 64 R)) := hx_set (hx_rf _ _) _ (by simp)
  refine ⟨hx_at x1 (by simp; omega) a1, poS_hx a2 x1 (fun q hq => by simp at hq; omega), hx_at x1 (by simp; omega) a3, fun i hi => ?_, wkS_lo x1 a5 (fun q hq => by simp at hq; omega)⟩
  show (h.set (41 + m) (LA 64 R))[41 + i]? = some (LA 64 (updR (s_D s) m R i))
  by_cases e : i = m
  · subst e
    rw [updR_s]
    exact hq_get (a4 i hi)
  · rw [updR_n _ _ e, hq_ne (by omega)]
    exact a4 i hi
theorem rzb_eq {f F : Nat → Int64} (h : rwN f = rwN F) (g : Bool) (dx dy : Nat) {y : Nat} (hy : y < 64) : xtu (fun x => xrs g (xtu (fun v => xrs g (f v) dx) x) dy) y = xtu (fun x => xrs g (xtu (fun v => xrs g (F v) dx) x) dy) y := by
  refine bb_ext (fun x hx2 => ?_)
  rw [bb_xtu _ hy hx2, bb_xtu _ hy hx2]
  have e : xtu (fun v => xrs g (f v) dx) x = xtu (fun v => xrs g (F v) dx) x := bb_ext (fun z hz => by
    rw [bb_xtu _ hx2 hz, bb_xtu _ hx2 hz, row_eq h hz])
  rw [e]
/-- square (x, y) of rows f grown or shrunk -/
def rzb (g : Bool) (f : Nat → Int64) (dx dy x y : Nat) : Bool := bb (xtu (fun x => xrs g (xtu (fun v => xrs g (f v) dx) x) dy) y) x
set_option maxRecDepth 20000 in
theorem k_size_1 (l : Launch) (s : St) (x o : Int32) (a : Int64) (v : Value) (hx0 : x < 0 ∨ nI (s_B s + s_m s) ≤ x) : clsM l Y_es_size [.int x, .long a, .int o] s 1 v s := by
  intro h hS
  refine hp_start (T := T_es_size) (by decide) rfl (fun σ => Nat.le_of_ble_eq_true rfl) (fun G C => ?_)
  refine hp_run_sound hp_co V_es_size C (fun _ _ _ _ _ _ _ hq => hq) [] 12 _ _ _ _ _ _ _ ?_
  refine And.intro ⟨0, _, hS.1, rfl⟩ ?_
  refine ic_P (c_es_needLayer_no l h _ _ _ x hS.1 hx0) (Nat.le_refl _) (Nat.le_refl _) ?_
  exact ⟨rfl, hxC_rf h, hS⟩
set_option maxRecDepth 20000 in
theorem k_size_2 (l : Launch) (s : St) (x o : Int32) (a : Int64) (v : Value) (hx1 : ¬ x < 0) (hx2 : ¬ nI (s_B s + s_m s) ≤ x) (hm : s_m s = 24) : clsM l Y_es_size [.int x, .long a, .int o] s 2 v s := by
  intro h hS
  refine hp_start (T := T_es_size) (by decide) rfl (fun σ => Nat.le_of_ble_eq_true rfl) (fun G C => ?_)
  refine hp_run_sound hp_co V_es_size C (fun _ _ _ _ _ _ _ hq => hq) [] 12 _ _ _ _ _ _ _ ?_
  refine And.intro ⟨0, _, hS.1, rfl⟩ ?_
  refine ic_P (c_es_needLayer l h _ _ _ x hS.1 hx1 hx2) (Nat.le_add_left _ _) (Nat.le_add_left _ _) ?_
  refine And.intro ⟨0, _, hS.1, rfl⟩ ?_
  refine ic_P (c_es_needRoom_no l h _ _ _ hm hS.1) (Nat.le_refl _) (Nat.le_refl _) ?_
  exact ⟨rfl, hxC_rf h, hS⟩
set_option maxRecDepth 20000 in
theorem k_size_3 (l : Launch) (s : St) (x o : Int32) (a : Int64) (v : Value) (hx1 : ¬ x < 0) (hx2 : ¬ nI (s_B s + s_m s) ≤ x) (hm : s_m s < 24) (ha : a = 0 ∨ a < -64 ∨ 64 < a) : clsM l Y_es_size [.int x, .long a, .int o] s 3 v s := by
  intro h hS
  refine hp_start (T := T_es_size) (by decide) rfl (fun σ => Nat.le_of_ble_eq_true rfl) (fun G C => ?_)
  have thr : ∀ lv, hp_W G 31 lv [] h true 0 0 := fun lv => hq_throw (ik := 94) (is := 146) (ic := 98) (ci := 2) (text := "by is 0 or beyond 64") V_es_size C tw_es2 (by decide) rfl rfl rfl rfl rfl rfl (by decide) (by decide) (by decide) (by decide) ⟨rfl, hxC_rf h, hS⟩
  refine hp_run_sound hp_co V_es_size C (fun _ _ _ _ _ _ _ hq => hq) [31, 41] 30 _ _ _ _ _ _ _ ?_
  refine And.intro ⟨0, _, hS.1, rfl⟩ ?_
  refine ic_P (c_es_needLayer l h _ _ _ x hS.1 hx1 hx2) (Nat.le_add_left _ _) (Nat.le_add_left _ _) ?_
  refine And.intro ⟨0, _, hS.1, rfl⟩ ?_
  refine ic_P (c_es_needRoom l h _ _ _ hm hS.1) (Nat.le_add_left _ _) (Nat.le_add_left _ _) ?_
  refine And.intro (fun q1 => thr _) (fun q1 => And.intro (fun q2 => thr _) (fun q2 => And.intro (fun q3 => ?_) (fun q3 => thr _)))
  exfalso
  rcases ha with e | e | e
  · exact q1 ((lg_cmp_eq _ _).mpr e)
  · exact q2 ((lg_cmp_lt _ _).mpr e)
  · exact absurd ((lg_cmp_le _ _).mp q3) (Int64.not_le.mpr e)
/-- what a size is asked by: d to grow, or -d to shrink -/
def szv (g : Bool) (d : Nat) : Int64 := if g then lN d else - lN d
theorem szv_f : ∀ g d, d ≤ 64 → 0 < d → ¬ szv g d = 0 ∧ ¬ szv g d < -64 ∧ szv g d ≤ 64 ∧ (szv g d ≤ 0 ↔ g = false) ∧ (if g then szv g d else - szv g d).toInt32 = nI d := by
  have h : ∀ g : Bool, ∀ d, d < 65 → 0 < d → ¬ szv g d = 0 ∧ ¬ szv g d < -64 ∧ szv g d ≤ 64 ∧ (szv g d ≤ 0 ↔ g = false) ∧ (if g then szv g d else - szv g d).toInt32 = nI d := by decide +kernel
  exact fun g d hd => h g d (by omega)
set_option maxRecDepth 20000 in
theorem k_size_0 (l : Launch) (s : St) (L d : Nat) (g oct : Bool) (hO : stOK s) (hL : L < s_B s + s_m s) (hm : s_m s < 24) (hd : d ≤ 64) (hd0 : 0 < d) (F : Nat → Int64) (hF : shw s L F) :
    clsD l Y_es_size [.int (nI L), .long (szv g d), .int (zI oct)] s (fun x y => if oct then (if g then rzb g F d (d / 2) x y || rzb g F (d / 2) d x y else rzb g F d (d / 2) x y && rzb g F (d / 2) d x y) else rzb g F d d x y) := by
  intro h hS
  obtain ⟨z1, z2, z3, z4, z5⟩ := szv_f g d hd hd0
  refine hp_start (T := T_es_size) (by decide) rfl (fun σ => Nat.le_of_ble_eq_true rfl) (fun G C => ?_)
  generalize szv g d = av at z1 z2 z3 z4 z5
  -- from 84 on
  have t84 : hp_W G 84 [(0, .ref 1), (1, .int (nI L)), (2, .long av), (4, .int (zI oct)), (5, .int (zI g)), (6, .int (nI d)), (7, .int (nI (if oct then d / 2 else d)))] [] h true 0 0 := by
    have hn : (if oct then d / 2 else d) ≤ 64 := by split <;> omega
    generalize hne : (if oct then d / 2 else d) = nd at hn
    refine hp_run_sound hp_co V_es_size C (fun _ _ _ _ _ _ _ hq => hq) [149] 60 _ _ _ _ _ _ _ ?_
    refine Exists.intro _ (And.intro hS.1 ?_)
    refine And.intro ⟨0, _, hS.1, rfl⟩ ?_
    refine ic_Q (c_es_areaOf l h s L 72 hO hS hL (Or.inl rfl)) (Nat.le_add_left _ _) (Nat.le_add_left _ _) (fun r h2 hq => ?_)
    obtain ⟨b, f, rfl, hb2, hf, hsh, hx1, hS2⟩ := hq
    have hr := rw_of hsh hF
    refine Exists.intro _ (And.intro hS2.1 ?_)
    refine Exists.intro _ (And.intro hS2.1 ?_)
    refine Exists.intro _ (Exists.intro 24 (Exists.intro _ (And.intro hS2.2.2.1 (And.intro (in_nI hm (by decide)) ?_))))
    rw [nI_clamp (show s_m s < 2 ^ 31 by omega)]
    refine ic_Q (c_ro_resize l h2 b (41 + s_m s) d nd g hd hn f _ hf (hS2.2.2.2.1 _ hm)) (Nat.le_add_left _ _) (Nat.le_add_left _ _) (fun r h3 hq => ?_)
    obtain ⟨rfl, f3, rfl, hf3⟩ := hq
    have hS3 := esS_m hS2 hm f3
    have hx3 : hxC h (h2.set (41 + s_m s) (LA 64 f3)) := hxC_tr (hxC_area (Or.inl rfl) hx1) (hxC_of (ps := [41 + s_m s]) (hx_set (hx_rf _ _) _ (by simp)) (fun q hq => by simp at hq; omega))
    refine And.intro (fun q => ?_) (fun q => ?_)
    · have ho : oct = false := (zI_eq oct).mp q
      subst ho
      refine And.intro ⟨0, _, hS3.1, rfl⟩ ?_
      refine ic_P (c_es_addMade l _ _ _ _ hS3.1) (Nat.le_add_left _ _) (Nat.le_add_left _ _) ?_
      refine And.intro rfl (And.intro rfl ⟨rfl, hxC_tr hx3 (hxC_of (ps := [1]) (hx_set (hx_rf _ _) _ (by simp)) (by simp)), f3, fun y x hy hx2 => ?_, esS_1 hS3 (s_m s + 1) (s_n s)⟩)
      rw [hf3 y hy, rzb_eq hr g d nd hy, ← hne]
      rfl
    · have ho : oct = true := by
        cases oct with
        | true => rfl
        | false => exact absurd rfl q
      subst ho
      have hnd : nd = d / 2 := hne.symm
      refine Exists.intro _ (And.intro hS3.1 ?_)
      obtain ⟨w1, w2, w3, w4, w5, w6, w7, w8, w9, w10, ⟨e, v11⟩⟩ := id hS3.2.2.2.2
      have hbm : 41 + s_m s ≠ b := by
        rcases hb2 with e' | ⟨_, e'⟩
        · rw [e']
          exact Nat.ne_of_lt (Nat.lt_of_lt_of_le (Nat.add_lt_add_left hm 41) (by decide))
        · exact Nat.ne_of_gt e'
      refine ic_Q (c_ro_resize l _ b 74 nd d g hn hd f e (by rw [hq_ne hbm]; exact hf) v11) (Nat.le_add_left _ _) (Nat.le_add_left _ _) (fun r h4 hq => ?_)
      obtain ⟨rfl, f4, rfl, hf4⟩ := hq
      have hS4 := esS_74 hS3 f4
      have hx4 : hxC h ((h2.set (41 + s_m s) (LA 64 f3)).set 74 (LA 64 f4)) := hxC_tr hx3 (hxC_of (ps := [74]) (hx_set (hx_rf _ _) _ (by simp)) (by simp))
      have k1 : ((h2.set (41 + s_m s) (LA 64 f3)).set 74 (LA 64 f4))[41 + s_m s]? = some (LA 64 f3) := by rw [hq_ne (by omega)]; exact hq_get (hS2.2.2.2.1 _ hm)
      have k2 : ((h2.set (41 + s_m s) (LA 64 f3)).set 74 (LA 64 f4))[74]? = some (LA 64 f4) := hq_get v11
      generalize (h2.set (41 + s_m s) (LA 64 f3)).set 74 (LA 64 f4) = h4 at hS4 hx4 k1 k2 ⊢
      have fin : ∀ u, u < 2 → (∀ x y, (xcb u x y) = if g then x ||| y else x &&& y) → ∀ R, R = pt 64 (fun y => xcb u (f3 y) (f4 y)) f3 → esS (h4.set (41 + s_m s) (LA 64 R)) (St' (s_B s) (s_m s) (s_n s) (s_c s) (s_lay s) (s_k s) (s_X s) (s_Y s) (updR (s_D s) (s_m s) R)) ∧ ∀ y x, y < 64 → x < 64 → bb (R y) x = (if g then rzb g F d nd x y || rzb g F nd d x y else rzb g F d nd x y && rzb g F nd d x y) := by
        intro u hu hxc R hR
        refine ⟨?_, fun y x hy hx2 => ?_⟩
        · have := esS_m hS4 hm R
          have e2 : updR (updR (s_D s) (s_m s) f3) (s_m s) R = updR (s_D s) (s_m s) R := by
            funext i
            unfold updR
            by_cases c : i = s_m s
            · rw [if_pos c, if_pos c]
            · rw [if_neg c, if_neg c, if_neg c]
          rw [show updR (s_D (St' (s_B s) (s_m s) (s_n s) (s_c s) (s_lay s) (s_k s) (s_X s) (s_Y s) (updR (s_D s) (s_m s) f3))) (s_m s) R = updR (s_D s) (s_m s) R from e2] at this
          exact this
        · rw [hR, pt_lt _ _ hy, hxc, hf3 y hy, hf4 y hy, rzb_eq hr g d nd hy, rzb_eq hr g nd d hy]
          cases g with
          | true => rw [if_pos rfl, if_pos rfl, bb_or]; rfl
          | false => rw [if_neg (by decide), if_neg (by decide), bb_and]; rfl
      have last : ∀ u, u < 2 → (∀ x y, (xcb u x y) = if g then x ||| y else x &&& y) → hp_W G 149 [(0, .ref 1), (1, .int (nI L)), (2, .long av), (4, .int (zI true)), (5, .int (zI g)), (6, .int (nI d)), (7, .int (nI nd)), (8, .ref b), (9, .ref (41 + s_m s))] [.int (nI u)] h4 false 0 0 := by
        intro u hu hxc
        obtain ⟨q1, q2⟩ := fin u hu hxc _ rfl
        refine hp_run_sound hp_co V_es_size C (fun _ _ _ _ _ _ _ hq => hq) [] 20 _ _ _ _ _ _ _ ?_
        refine Exists.intro _ (And.intro hS4.1 ?_)
        refine ic_P (c_es_combine l h4 u (41 + s_m s) 74 (41 + s_m s) (by omega) f3 f4 f3 k1 k2 k1) (Nat.le_add_left _ _) (Nat.le_add_left _ _) ?_
        refine And.intro ⟨0, _, q1.1, rfl⟩ ?_
        refine ic_P (c_es_addMade l _ _ _ _ q1.1) (Nat.le_add_left _ _) (Nat.le_add_left _ _) ?_
        refine And.intro rfl (And.intro rfl ⟨rfl, hxC_tr hx4 (hxC_of (ps := [1, 41 + s_m s]) (hx_set (hx_set (hx_rf _ _) _ (by simp)) _ (by simp)) (fun q hq => by simp at hq; omega)), _, fun y x hy hx2 => ?_, esS_1 q1 (s_m s + 1) (s_n s)⟩)
        rw [q2 y x hy hx2, hnd]
        rfl
      refine And.intro (fun q => ?_) (fun q => ?_)
      · have hg : g = false := (zI_eq g).mp q
        exact last 1 (by decide) (fun x y => by rw [hg]; rfl)
      · have hg : g = true := by
          cases hgg : g with
          | true => rfl
          | false => exact absurd (by rw [hgg]; rfl) q
        exact last 0 (by decide) (fun x y => by rw [hg]; rfl)
  have t82 : hp_W G 82 [(0, .ref 1), (1, .int (nI L)), (2, .long av), (4, .int (zI oct)), (5, .int (zI g)), (6, .int (nI d))] [.int (nI (if oct then d / 2 else d))] h true 0 0 := by
    refine hp_run_sound hp_co V_es_size C (fun _ _ _ _ _ _ _ hq => hq) [84] 3 _ _ _ _ _ _ _ ?_
    exact t84
  have t66 : hp_W G 66 [(0, .ref 1), (1, .int (nI L)), (2, .long av), (4, .int (zI oct)), (5, .int (zI g))] [.int (nI d)] h true 0 0 := by
    refine hp_run_sound hp_co V_es_size C (fun _ _ _ _ _ _ _ hq => hq) [82] 12 _ _ _ _ _ _ _ ?_
    refine And.intro (fun q => ?_) (fun q => ?_)
    · have ho : oct = false := (zI_eq oct).mp q
      rw [ho] at t82 ⊢
      exact t82
    · have ho : oct = true := by
        cases oct with
        | true => rfl
        | false => exact absurd rfl q
      rw [ho] at t82 ⊢
      refine And.intro (by decide) ?_
      rw [show nI d / hp_c 2 = nI (d / 2) from pk_div (d := 2) (by omega) (by decide) (by decide)]
      exact t82
  have t65 : ∀ z : Int64, z.toInt32 = nI d → hp_W G 65 [(0, .ref 1), (1, .int (nI L)), (2, .long av), (4, .int (zI oct)), (5, .int (zI g))] [.long z] h true 0 0 := by
    intro z hz
    refine hp_run_sound hp_co V_es_size C (fun _ _ _ _ _ _ _ hq => hq) [66] 2 _ _ _ _ _ _ _ ?_
    rw [← hz] at t66
    exact t66
  have t52 : hp_W G 52 [(0, .ref 1), (1, .int (nI L)), (2, .long av), (4, .int (zI oct))] [.int (zI g)] h true 0 0 := by
    refine hp_run_sound hp_co V_es_size C (fun _ _ _ _ _ _ _ hq => hq) [65] 12 _ _ _ _ _ _ _ ?_
    refine And.intro (fun q => ?_) (fun q => ?_)
    · have hg : g = false := (zI_eq g).mp q
      refine t65 _ ?_
      rw [hg] at z5
      exact z5
    · have hg : g = true := by
        cases g with
        | true => rfl
        | false => exact absurd rfl q
      refine t65 _ ?_
      rw [hg] at z5
      exact z5
  refine hp_run_sound hp_co V_es_size C (fun _ _ _ _ _ _ _ hq => hq) [31, 52] 40 _ _ _ _ _ _ _ ?_
  refine And.intro ⟨0, _, hS.1, rfl⟩ ?_
  refine ic_P (c_es_needLayer l h _ _ _ (nI L) hS.1 (nI_pos (by have := hO.2.1; omega)) (nI_ge hL (by have := hO.2.1; omega))) (Nat.le_add_left _ _) (Nat.le_add_left _ _) ?_
  refine And.intro ⟨0, _, hS.1, rfl⟩ ?_
  refine ic_P (c_es_needRoom l h _ _ _ hm hS.1) (Nat.le_add_left _ _) (Nat.le_add_left _ _) ?_
  refine And.intro (fun q => absurd ((lg_cmp_eq _ _).mp q) z1) (fun _ => And.intro (fun q => absurd ((lg_cmp_lt _ _).mp q) z2) (fun _ => And.intro (fun _ => ?_) (fun q => absurd ((lg_cmp_le _ _).mpr z3) q)))
  refine And.intro (fun q => ?_) (fun q => ?_)
  · have hg : g = false := z4.mp ((lg_cmp_le _ _).mp q)
    rw [hg] at t52
    exact t52
  · have hg : g = true := by
      cases hgg : g with
      | true => rfl
      | false => exact absurd ((lg_cmp_le _ _).mpr (z4.mpr hgg)) q
    rw [hg] at t52
    exact t52
