/-! PAIRS: a call of the class and the same of the reference, on the same state: the same code, the same answer, the same state after -/
def prI (l : Launch) (H : Nat) (Yc Ym : hp_Y) (av : List Value) (s : St) : Prop := ∃ N : Nat → Int32 → St → Prop, (∀ h, esS h s → hp_M l Yc (.ref 1 :: av) h false 1 6 (fun r h' => ∃ c x s', N c x s' ∧ ans c (.int x) r ∧ hxC h h' ∧ esS h' s')) ∧
  ∀ c x s', N c x s' → c ≤ H ∧ stOK s' ∧ ∀ h cd, moS h s cd → hp_M l Ym (.ref 75 :: av) h false 0 0 (fun r h' => ∃ x', r = .inl (some (.int x')) ∧ (c = 0 → x' = x) ∧ hxM h h' ∧ moS h' s' (nI c))
def prL (l : Launch) (H : Nat) (Yc Ym : hp_Y) (av : List Value) (s : St) : Prop := ∃ N : Nat → Int64 → St → Prop, (∀ h, esS h s → hp_M l Yc (.ref 1 :: av) h false 1 6 (fun r h' => ∃ c x s', N c x s' ∧ ans c (.long x) r ∧ hxC h h' ∧ esS h' s')) ∧
  ∀ c x s', N c x s' → c ≤ H ∧ stOK s' ∧ ∀ h cd, moS h s cd → hp_M l Ym (.ref 75 :: av) h false 0 0 (fun r h' => ∃ x', r = .inl (some (.long x')) ∧ (c = 0 → x' = x) ∧ hxM h h' ∧ moS h' s' (nI c))
theorem prI_M {l : Launch} {H : Nat} {Yc Ym : hp_Y} {av : List Value} {s s' : St} {c : Nat} {x x' : Int32} (hc : c ≤ H) (hO : stOK s') (h1 : clsM l Yc av s c (.int x) s') (h2 : moM l Ym av s c (.int x') s') (he : c = 0 → x' = x) : prI l H Yc Ym av s := by
  refine ⟨fun c1 x1 s1 => c1 = c ∧ x1 = x ∧ s1 = s', fun h hS => hp_M_weak (h1 h hS) (fun r h' q => ⟨c, x, s', ⟨rfl, rfl, rfl⟩, q⟩), ?_⟩
  rintro c1 x1 s1 ⟨rfl, rfl, rfl⟩
  exact ⟨hc, hO, fun h cd hS => hp_M_weak (h2 h cd hS) (fun r h' q => ⟨x', q.1, he, q.2⟩)⟩
theorem prL_M {l : Launch} {H : Nat} {Yc Ym : hp_Y} {av : List Value} {s s' : St} {c : Nat} {x x' : Int64} (hc : c ≤ H) (hO : stOK s') (h1 : clsM l Yc av s c (.long x) s') (h2 : moM l Ym av s c (.long x') s') (he : c = 0 → x' = x) : prL l H Yc Ym av s := by
  refine ⟨fun c1 x1 s1 => c1 = c ∧ x1 = x ∧ s1 = s', fun h hS => hp_M_weak (h1 h hS) (fun r h' q => ⟨c, x, s', ⟨rfl, rfl, rfl⟩, q⟩), ?_⟩
  rintro c1 x1 s1 ⟨rfl, rfl, rfl⟩
  exact ⟨hc, hO, fun h cd hS => hp_M_weak (h2 h cd hS) (fun r h' q => ⟨x', q.1, he, q.2⟩)⟩
theorem prI_D {l : Launch} {H : Nat} {Yc Ym : hp_Y} {av : List Value} {s : St} (hO : stOK s) (hm : s_m s < 24) {sp : Nat → Nat → Bool} (h1 : clsD l Yc av s sp) (h2 : moD l Ym av s sp) : prI l H Yc Ym av s := by
  refine ⟨fun c x s' => c = 0 ∧ x = nI (s_B s + s_m s) ∧ ∃ R, (∀ y x, y < 64 → x < 64 → bb (R y) x = sp x y) ∧ s' = St' (s_B s) (s_m s + 1) (s_n s) (s_c s) (s_lay s) (s_k s) (s_X s) (s_Y s) (updR (s_D s) (s_m s) R), fun h hS => hp_M_weak (h1 h hS) (fun r h' q => ?_), ?_⟩
  · obtain ⟨q1, q2, R, q3, q4⟩ := q
    exact ⟨0, nI (s_B s + s_m s), _, ⟨rfl, rfl, R, q3, rfl⟩, q1, q2, q4⟩
  · rintro c x s' ⟨rfl, rfl, R, hR, rfl⟩
    obtain ⟨o1, o2, o3, o4⟩ := hO
    exact ⟨Nat.zero_le _, ⟨o1, o2, hm, o4⟩, fun h cd hS => hp_M_weak (h2 h cd hS) (fun r h' q => ⟨_, q.1, fun _ => rfl, q.2.1, q.2.2 R hR⟩)⟩
theorem shw_ex (s : St) (L : Nat) : ∃ F, shw s L F := ⟨fun y => ofB fun x => inL s L x y, fun y x _ hx2 => bb_ofB _ hx2⟩
theorem lay_cs {s : St} (hO : stOK s) (x : Int32) : (x < 0 ∨ nI (s_B s + s_m s) ≤ x) ∨ ∃ L, L < s_B s + s_m s ∧ x = nI L := by
  have o2 := hO.2.1
  have o3 := hO.2.2.1
  rcases pk_ix x (n := s_B s + s_m s) (by omega) with e | e | e
  · exact Or.inl (Or.inl e)
  · exact Or.inl (Or.inr e)
  · exact Or.inr e
theorem m24 {s : St} (hO : stOK s) : s_m s = 24 ∨ s_m s < 24 := by
  have := hO.2.2.1
  omega
theorem pr_polygon (l : Launch) (s : St) (hO : stOK s) (x : Int32) : prI l 2 Y_es_polygon Y_mo_polygon [.int x] s := by
  obtain ⟨o1, o2, o3, o4, o5, o6, o7, o8, o9, o10⟩ := id hO
  rcases pk_ix x (n := s_B s) (by omega) with e | e | ⟨L, hL, rfl⟩
  · exact prI_M (x := 0) (by decide) hO (k_polygon_1 l s x _ (Or.inl e)) (m_polygon_1 l s x (Or.inl e)) (fun q => by cases q)
  · exact prI_M (x := 0) (by decide) hO (k_polygon_1 l s x _ (Or.inr e)) (m_polygon_1 l s x (Or.inr e)) (fun q => by cases q)
  · rcases Nat.lt_or_ge (s_c s) 16 with c | c
    · refine prI_M (by decide) ?_ (k_polygon_0 l s L o2 hL c) (m_polygon_0 l s L o2 hL c) (fun _ => rfl)
      refine ⟨o1, o2, o3, o4, o5, c, fun p hp => ?_, fun p hp => ?_, o9, o10⟩
      · show updN (s_lay s) (s_c s) L p ≤ 65536
        unfold updN
        split
        · omega
        · exact o7 p hp
      · show updN (s_k s) (s_c s) 0 p ≤ 16
        unfold updN
        split
        · omega
        · exact o8 p hp
    · have h1 : ¬ nI L < 0 := nI_pos (by omega)
      have h2 : ¬ nI (s_B s) ≤ nI L := nI_ge hL (by omega)
      exact prI_M (x := 0) (by decide) hO (k_polygon_2 l s _ _ h1 h2 (by omega)) (m_polygon_2 l s _ h1 h2 (by omega)) (fun q => by cases q)
theorem lg_cs (a : Int64) : (a < 0 ∨ 64 < a) ∨ ∃ x, x ≤ 64 ∧ a = lN x := by
  by_cases h1 : a < 0
  · exact Or.inl (Or.inl h1)
  · by_cases h2 : 64 < a
    · exact Or.inl (Or.inr h2)
    · obtain ⟨k, hk, rfl⟩ := pk_lOf h1
      exact Or.inr ⟨k, (pk_lLE (b := 64) hk (by decide)).mp (Int64.not_lt.mp h2), rfl⟩
theorem pr_corner (l : Launch) (s : St) (hO : stOK s) (x : Int32) (a b : Int64) : prI l 3 Y_es_corner Y_mo_corner [.int x, .long a, .long b] s := by
  obtain ⟨o1, o2, o3, o4, o5, o6, o7, o8, o9, o10⟩ := id hO
  rcases pk_ix x (n := s_c s) (by omega) with e | e | ⟨p, hp, rfl⟩
  · exact prI_M (x := 0) (by decide) hO (k_corner_1 l s x a b _ (Or.inl e)) (m_corner_1 l s x a b (Or.inl e)) (fun q => by cases q)
  · exact prI_M (x := 0) (by decide) hO (k_corner_1 l s x a b _ (Or.inr e)) (m_corner_1 l s x a b (Or.inr e)) (fun q => by cases q)
  · have hp16 : p < 16 := by omega
    rcases Nat.lt_or_ge (s_k s p) 16 with ck | ck
    · rcases lg_cs a with e | ⟨xa, ha, rfl⟩
      · have hab : a < 0 ∨ 64 < a ∨ b < 0 ∨ 64 < b := e.elim Or.inl (fun q => Or.inr (Or.inl q))
        exact prI_M (x := 0) (by decide) hO (k_corner_3 l s p a b _ hO hp ck hab) (m_corner_3 l s p a b hO hp ck hab) (fun q => by cases q)
      · rcases lg_cs b with e | ⟨xb, hb, rfl⟩
        · have hab : lN xa < 0 ∨ 64 < lN xa ∨ b < 0 ∨ 64 < b := Or.inr (Or.inr e)
          exact prI_M (x := 0) (by decide) hO (k_corner_3 l s p _ b _ hO hp ck hab) (m_corner_3 l s p _ b hO hp ck hab) (fun q => by cases q)
        · have good : (s_k s p = 0 ∨ dif (s_X s) (s_Y s) p (s_k s p - 1) xa xb = true) → prI l 3 Y_es_corner Y_mo_corner [.int (nI p), .long (lN xa), .long (lN xb)] s := fun hd => by
            refine prI_M (by decide) ?_ (k_corner_t l s p xa xb hO hp ck ha hb hd) (m_corner_t l s p xa xb hO hp ck ha hb hd) (fun _ => rfl)
            refine ⟨o1, o2, o3, o4, o5, o6, o7, fun q hq => ?_, fun q j hq => ?_, fun q j hq => ?_⟩
            · show updN (s_k s) p (s_k s p + 1) q ≤ 16
              unfold updN
              split
              · omega
              · exact o8 q hq
            · show updF (s_X s) p (updN (s_X s p) (s_k s p) xa) q j ≤ 64
              unfold updF updN
              split
              · show (if j = s_k s p then xa else s_X s p j) ≤ 64
                split
                · exact ha
                · exact o9 p j hp16
              · exact o9 q j hq
            · show updF (s_Y s) p (updN (s_Y s p) (s_k s p) xb) q j ≤ 64
              unfold updF updN
              split
              · show (if j = s_k s p then xb else s_Y s p j) ≤ 64
                split
                · exact hb
                · exact o10 p j hp16
              · exact o10 q j hq
          rcases Nat.eq_zero_or_pos (s_k s p) with c0 | c0
          · exact good (Or.inl c0)
          · cases hd : dif (s_X s) (s_Y s) p (s_k s p - 1) xa xb with
            | true => exact good (Or.inr hd)
            | false => exact prI_M (by decide) hO (k_corner_f l s p xa xb hO hp ck ha hb c0 hd) (m_corner_f l s p xa xb hO hp ck ha hb c0 hd) (fun _ => rfl)
    · have e16 : s_k s p = 16 := by have := o8 p hp16; omega
      exact prI_M (x := 0) (by decide) hO (k_corner_2 l s p a b _ hO hp e16) (m_corner_2 l s p a b hO hp e16) (fun q => by cases q)
theorem grT_ex (E : Nat → Int64) : ∃ T, grT E T := ⟨fun y => ofB fun x => rzb true E 1 1 x y, fun y x _ hx2 => bb_ofB _ hx2⟩
theorem sp_ex (P : Nat → Nat → Prop) : ∃ sp : Nat → Nat → Bool, ∀ y x, y < 64 → x < 64 → (sp x y = true ↔ P y x) := ⟨fun x y => @decide (P y x) (Classical.propDecidable _), fun _ _ _ _ => @decide_eq_true_iff _ (Classical.propDecidable _)⟩
theorem w_cs (w : Int32) : (w < 0 ∨ 5 < w) ∨ ∃ k, k ≤ 5 ∧ w = nI k := by
  rcases pk_ix w (n := 6) (by decide) with e | e | ⟨k, hk, e⟩
  · exact Or.inl (Or.inl e)
  · refine Or.inl (Or.inr (Int32.lt_iff_toInt_lt.mpr ?_))
    have := Int32.le_iff_toInt_le.mp e
    have e1 : (5 : Int32).toInt = 5 := rfl
    have e2 : (nI 6).toInt = 6 := rfl
    omega
  · exact Or.inr ⟨k, by omega, e⟩
theorem pr_op (l : Launch) (s : St) (hO : stOK s) (w a b : Int32) : prI l 3 Y_es_op Y_mo_op [.int w, .int a, .int b] s := by
  rcases lay_cs hO a with e | ⟨A, hA, rfl⟩
  · exact prI_M (x := 0) (by decide) hO (k_op_1 l s w a b _ (Or.inl e)) (m_op_1 l s w a b (Or.inl e)) (fun q => by cases q)
  · rcases lay_cs hO b with e | ⟨B, hB, rfl⟩
    · exact prI_M (x := 0) (by decide) hO (k_op_1 l s w _ b _ (Or.inr e)) (m_op_1 l s w _ b (Or.inr e)) (fun q => by cases q)
    · rcases m24 hO with hm | hm
      · exact prI_M (x := 0) (by decide) hO (k_op_2 l s w A B _ hO hA hB hm) (m_op_2 l s w A B hO hA hB hm) (fun q => by cases q)
      · rcases w_cs w with e | ⟨k, hk, rfl⟩
        · exact prI_M (x := 0) (by decide) hO (k_op_3 l s w A B _ hO hA hB hm e) (m_op_3 l s w A B hO hA hB hm e) (fun q => by cases q)
        · obtain ⟨F, hF⟩ := shw_ex s A
          obtain ⟨E, hE⟩ := shw_ex s B
          rcases (show k < 4 ∨ k = 4 ∨ k = 5 by omega) with c | c | c
          · exact prI_D hO hm (k_op_0 l s k A B hO hA hB hm c F E hF hE) (m_op_0 l s k A B hO hA hB hm c F E hF hE)
          · subst c
            obtain ⟨sp, hsp⟩ := sp_ex (fun y x => qs F (64 * y + x) = true ∧ ∀ j, j < 4096 → qs F j = true → cnx (adj F 0) (64 * y + x) j → qs E j = true)
            exact prI_D hO hm (k_op_4 l s A B hO hA hB hm F E hF hE sp hsp) (m_op_4 l s A B hO hA hB hm F E hF hE sp hsp)
          · subst c
            obtain ⟨T, hT⟩ := grT_ex E
            obtain ⟨sp, hsp⟩ := sp_ex (fun y x => qs F (64 * y + x) = true ∧ ∃ j, j < 4096 ∧ qs F j = true ∧ cnx (adj F 0) (64 * y + x) j ∧ qs T j = true)
            exact prI_D hO hm (k_op_5 l s A B hO hA hB hm F E T hF hE hT sp hsp) (m_op_5 l s A B hO hA hB hm F E T hF hE hT sp hsp)
theorem szv_toInt : ∀ g d, d ≤ 64 → (szv g d).toInt = if g then (d : Int) else -(d : Int) := by
  have h : ∀ g : Bool, ∀ d, d < 65 → (szv g d).toInt = if g then (d : Int) else -(d : Int) := by decide +kernel
  exact fun g d hd => h g d (by omega)
theorem sz_cs (a : Int64) : (a = 0 ∨ a < -64 ∨ 64 < a) ∨ ∃ g d, 0 < d ∧ d ≤ 64 ∧ a = szv g d := by
  by_cases h1 : a = 0
  · exact Or.inl (Or.inl h1)
  · by_cases h2 : a < -64
    · exact Or.inl (Or.inr (Or.inl h2))
    · by_cases h3 : 64 < a
      · exact Or.inl (Or.inr (Or.inr h3))
      · have a2 := Int64.le_iff_toInt_le.mp (Int64.not_lt.mp h2)
        have a3 := Int64.le_iff_toInt_le.mp (Int64.not_lt.mp h3)
        have e1 : (-64 : Int64).toInt = -64 := rfl
        have e2 : (64 : Int64).toInt = 64 := rfl
        have a1 : a.toInt ≠ 0 := fun e => h1 (Int64.toInt_inj.mp (e.trans (show (0 : Int) = (0 : Int64).toInt from rfl)))
        rcases (show 0 < a.toInt ∨ a.toInt < 0 by omega) with c | c
        · refine Or.inr ⟨true, a.toInt.toNat, by omega, by omega, Int64.toInt_inj.mp ?_⟩
          rw [szv_toInt true _ (by omega), if_pos rfl]
          omega
        · refine Or.inr ⟨false, (-a.toInt).toNat, by omega, by omega, Int64.toInt_inj.mp ?_⟩
          rw [szv_toInt false _ (by omega), if_neg (by decide)]
          omega
theorem pr_size (l : Launch) (s : St) (hO : stOK s) (x : Int32) (a : Int64) (oct : Bool) : prI l 3 Y_es_size Y_mo_size [.int x, .long a, .int (zI oct)] s := by
  rcases lay_cs hO x with e | ⟨L, hL, rfl⟩
  · exact prI_M (x := 0) (by decide) hO (k_size_1 l s x _ a _ e) (m_size_1 l s x _ a e) (fun q => by cases q)
  · have hl := lay_ok hO hL
    rcases m24 hO with hm | hm
    · exact prI_M (x := 0) (by decide) hO (k_size_2 l s _ _ a _ hl.1 hl.2 hm) (m_size_2 l s L _ a hO hL hm) (fun q => by cases q)
    · rcases sz_cs a with e | ⟨g, d, d0, d1, rfl⟩
      · exact prI_M (x := 0) (by decide) hO (k_size_3 l s _ _ a _ hl.1 hl.2 hm e) (m_size_3 l s L _ a hO hL hm e) (fun q => by cases q)
      · obtain ⟨F, hF⟩ := shw_ex s L
        exact prI_D hO hm (k_size_0 l s L d g oct hO hL hm d1 d0 F hF) (m_size_0 l s L d g oct hO hL hm d1 d0 F hF)
theorem pr_shapes (l : Launch) (s : St) (hO : stOK s) (x : Int32) : prI l 1 Y_es_shapes Y_mo_shapes [.int x] s := by
  rcases lay_cs hO x with e | ⟨L, hL, rfl⟩
  · exact prI_M (x := 0) (by decide) hO (k_shapes_1 l s x _ e) (m_shapes_1 l s x e) (fun q => by cases q)
  · obtain ⟨F, hF⟩ := shw_ex s L
    obtain ⟨fi, hfi⟩ := isF_ex F 0
    exact prI_M (by decide) hO (k_shapes_0 l s L hO hL F hF fi hfi) (m_shapes_0 l s L hO hL F hF fi hfi) (fun _ => rfl)
theorem sm_inv {c : Nat → Nat} : ∀ {n K : Nat}, K < sm c n → ∃ y, y < n ∧ sm c y ≤ K ∧ K < sm c y + c y
  | 0, K, h => absurd h (Nat.not_lt_zero _)
  | n + 1, K, h => by
    rcases Nat.lt_or_ge K (sm c n) with q | q
    · obtain ⟨y, h1, h2⟩ := sm_inv q
      exact ⟨y, by omega, h2⟩
    · exact ⟨n, by omega, q, h⟩
theorem shR_ex (F : Nat → Int64) (a : Nat) : ∃ R, shR F a R := by
  obtain ⟨sp, hsp⟩ := sp_ex (fun y x => qs F (64 * y + x) = true ∧ cnx (adj F 0) a (64 * y + x))
  exact ⟨fun y => ofB fun x => sp x y, fun y x hy hx2 => by rw [bb_ofB _ hx2]; exact hsp y x hy hx2⟩
theorem pr_at (l : Launch) (s : St) (hO : stOK s) (x t k w : Int32) : prL l 1 Y_es_at Y_mo_at [.int x, .int t, .int k, .int w] s := by
  rcases lay_cs hO x with e | ⟨L, hL, rfl⟩
  · exact prL_M (x := 0) (by decide) hO (k_at_1a l s x t k w _ (Or.inl e)) (m_at_1l l s x t k w e) (fun q => by cases q)
  · obtain ⟨F, hF⟩ := shw_ex s L
    obtain ⟨fi, hfi⟩ := isF_ex F 0
    have hb := cn_4096 fi
    have wb : ∀ e : w < 0 ∨ 2 ≤ w, prL l 1 Y_es_at Y_mo_at [.int (nI L), .int t, .int k, .int w] s := fun e => prL_M (x := 0) (by decide) hO (k_at_1a l s _ t k w _ (Or.inr e)) (m_at_1t l s L t k w hO hL F hF fi hfi (Or.inr e)) (fun q => by cases q)
    rcases pk_ix w (n := 2) (by decide) with e | e | ⟨ax, hax, rfl⟩
    · exact wb (Or.inl e)
    · exact wb (Or.inr e)
    · have tb : ∀ e : t < 0 ∨ nI (cn fi 4096) ≤ t, prL l 1 Y_es_at Y_mo_at [.int (nI L), .int t, .int k, .int (nI ax)] s := fun e => prL_M (x := 0) (by decide) hO (k_at_1t l s L ax t k _ hO hL hax F hF fi hfi e) (m_at_1t l s L t k _ hO hL F hF fi hfi (Or.inl e)) (fun q => by cases q)
      rcases pk_ix t (n := cn fi 4096) hb with e | e | ⟨t', ht', rfl⟩
      · exact tb (Or.inl e)
      · exact tb (Or.inr e)
      · obtain ⟨a, ha, a1, rfl⟩ := cn_inv ht'
        obtain ⟨R, hR⟩ := shR_ex F a
        have hcy := cyn_le R (y := 65) (Nat.le_refl _)
        have kb : ∀ e : k < 0 ∨ nI (cyn R 65) ≤ k, prL l 1 Y_es_at Y_mo_at [.int (nI L), .int (nI (cn fi a)), .int k, .int (nI ax)] s := fun e => prL_M (x := 0) (by decide) hO (k_at_1k l s L ax a k _ hO hL hax F R hF fi hfi ha a1 hR e) (m_at_1k l s L ax a k hO hL hax F R hF fi hfi ha a1 hR e) (fun q => by cases q)
        rcases pk_ix k (n := cyn R 65) (by omega) with e | e | ⟨K, hK, rfl⟩
        · exact kb (Or.inl e)
        · exact kb (Or.inr e)
        · obtain ⟨y, y1, y2, y3⟩ := sm_inv hK
          obtain ⟨xx, x1, x2, x3⟩ := cn_inv (g := cnr R y) (n := 65) (m := K - cyn R y) (by have : sm (fun y => cn (cnr R y) 65) y = cyn R y := rfl; omega)
          have eK : K = cyn R y + cn (cnr R y) xx := by
            have : sm (fun y => cn (cnr R y) 65) y = cyn R y := rfl
            omega
          subst eK
          exact prL_M (by decide) hO (k_at_0 l s L ax a y xx hO hL hax F R hF fi hfi ha a1 hR (by omega) (by omega) x2) (m_at_0 l s L ax a y xx hO hL hax F R hF fi hfi ha a1 hR (by omega) (by omega) x2) (fun _ => rfl)
theorem lg_cs2 (a : Int64) : (a < 0 ∨ 64 ≤ a) ∨ ∃ x, x < 64 ∧ a = lN x := by
  by_cases h1 : a < 0
  · exact Or.inl (Or.inl h1)
  · by_cases h2 : 64 ≤ a
    · exact Or.inl (Or.inr h2)
    · obtain ⟨k, hk, rfl⟩ := pk_lOf h1
      exact Or.inr ⟨k, (pk_lLT (b := 64) hk (by decide)).mp (Int64.not_le.mp h2), rfl⟩
theorem pr_in (l : Launch) (s : St) (hO : stOK s) (x : Int32) (a b : Int64) : prI l 1 Y_es_in Y_mo_in [.int x, .long a, .long b] s := by
  rcases lay_cs hO x with e | ⟨L, hL, rfl⟩
  · exact prI_M (x := 0) (by decide) hO (k_in_1 l s x a b _ e) (m_in_1 l s x a b e) (fun q => by cases q)
  · rcases lg_cs2 a with e | ⟨xa, ha, rfl⟩
    · have hab : a < 0 ∨ 64 ≤ a ∨ b < 0 ∨ 64 ≤ b := e.elim Or.inl (fun q => Or.inr (Or.inl q))
      exact prI_M (by decide) hO (k_in_o l s L a b hO hL hab) (m_in_o l s L a b hO hL hab) (fun _ => rfl)
    · rcases lg_cs2 b with e | ⟨xb, hb, rfl⟩
      · have hab : lN xa < 0 ∨ 64 ≤ lN xa ∨ b < 0 ∨ 64 ≤ b := Or.inr (Or.inr e)
        exact prI_M (by decide) hO (k_in_o l s L _ b hO hL hab) (m_in_o l s L _ b hO hL hab) (fun _ => rfl)
      · exact prI_M (by decide) hO (k_in_0 l s L xa xb hO hL ha hb) (m_in_0 l s L xa xb hO hL ha hb) (fun _ => rfl)
theorem pr_area2 (l : Launch) (s : St) (hO : stOK s) (x y : Int32) : prL l 1 Y_es_area2 Y_mo_area2 [.int x, .int y] s := by
  have bad : ∀ e : (x < 0 ∨ nI (s_B s + s_m s) ≤ x) ∨ (y < 0 ∨ 2 ≤ y), prL l 1 Y_es_area2 Y_mo_area2 [.int x, .int y] s := fun e => prL_M (x := 0) (by decide) hO (k_area2_1 l s x y _ hO e) (m_area2_1 l s x y e) (fun q => by cases q)
  rcases lay_cs hO x with e | ⟨L, hL, rfl⟩
  · exact bad (Or.inl e)
  · rcases pk_ix y (n := 2) (by decide) with e | e | ⟨i, hi, rfl⟩
    · exact bad (Or.inr (Or.inl e))
    · exact bad (Or.inr (Or.inr e))
    · obtain ⟨F, hF⟩ := shw_ex s L
      exact prL_M (by decide) hO (k_area2_0 l s L i hO hL hi F hF) (m_area2_0 l s L i hO hL hi F hF) (fun _ => rfl)
theorem pr_touching (l : Launch) (s : St) (hO : stOK s) (a b k : Int32) : prI l 1 Y_es_touching Y_mo_touching [.int a, .int b, .int k] s := by
  have bad : ∀ e : (a < 0 ∨ nI (s_B s + s_m s) ≤ a) ∨ (b < 0 ∨ nI (s_B s + s_m s) ≤ b) ∨ k < 0, prI l 1 Y_es_touching Y_mo_touching [.int a, .int b, .int k] s := fun e => prI_M (x := 0) (by decide) hO (k_touching_1 l s a b k _ e) (m_touching_1 l s a b k e) (fun q => by cases q)
  rcases lay_cs hO a with e | ⟨A, hA, rfl⟩
  · exact bad (Or.inl e)
  · rcases lay_cs hO b with e | ⟨B, hB, rfl⟩
    · exact bad (Or.inr (Or.inl e))
    · by_cases hk : k < 0
      · exact bad (Or.inr (Or.inr hk))
      · obtain ⟨K, hK, rfl⟩ := nI_of hk
        obtain ⟨F, hF⟩ := shw_ex s A
        obtain ⟨E, hE⟩ := shw_ex s B
        obtain ⟨T, hT⟩ := grT_ex E
        obtain ⟨fi, hfi⟩ := isF_ex F 0
        have hM : ∀ t, t < cn fi 4096 → ((fun t => @decide (mkT F fi T t) (Classical.propDecidable _)) t = true ↔ mkT F fi T t) := fun t _ => @decide_eq_true_iff _ (Classical.propDecidable _)
        generalize (fun t => @decide (mkT F fi T t) (Classical.propDecidable _)) = M at hM
        rcases Nat.lt_or_ge K (cn M (cn fi 4096)) with c | c
        · obtain ⟨t, t1, t2, rfl⟩ := cn_inv c
          exact prI_M (by decide) hO (k_touching_0 l s A B t hO hA hB F E T hF hE hT fi M hfi hM t1 t2) (m_touching_0 l s A B t hO hA hB F E T hF hE hT fi M hfi hM t1 t2) (fun _ => rfl)
        · exact prI_M (by decide) hO (k_touching_n l s A B K hO hA hB hK F E T hF hE hT fi M hfi hM c) (m_touching_n l s A B K hO hA hB hK F E T hF hE hT fi M hfi hM c) (fun _ => rfl)
theorem pr_nets (l : Launch) (s : St) (hO : stOK s) (x : Int32) : prI l 1 Y_es_nets Y_mo_nets [.int x] s := by
  rcases lay_cs hO x with e | ⟨L, hL, rfl⟩
  · exact prI_M (x := 0) (by decide) hO (k_nets_1 l s x _ e) (m_nets_1 l s x e) (fun q => by cases q)
  · obtain ⟨F, hF⟩ := shw_ex s L
    obtain ⟨fj, hfj⟩ := isF_ex F 1
    exact prI_M (by decide) hO (k_nets_0 l s L hO hL F hF fj hfj) (m_nets_0 l s L hO hL F hF fj hfj) (fun _ => rfl)
theorem pr_netOf (l : Launch) (s : St) (hO : stOK s) (x t : Int32) : prI l 1 Y_es_netOf Y_mo_netOf [.int x, .int t] s := by
  rcases lay_cs hO x with e | ⟨L, hL, rfl⟩
  · exact prI_M (x := 0) (by decide) hO (k_netOf_1 l s x t _ e) (m_netOf_1 l s x t e) (fun q => by cases q)
  · obtain ⟨F, hF⟩ := shw_ex s L
    obtain ⟨fi, hfi⟩ := isF_ex F 0
    obtain ⟨fj, hfj⟩ := isF_ex F 1
    have hb := cn_4096 fi
    have bad : ∀ e : t < 0 ∨ nI (cn fi 4096) ≤ t, prI l 1 Y_es_netOf Y_mo_netOf [.int (nI L), .int t] s := fun e => prI_M (x := 0) (by decide) hO (k_netOf_1t l s L t _ hO hL F hF fi hfi e) (m_netOf_1t l s L t hO hL F hF fi hfi e) (fun q => by cases q)
    rcases pk_ix t (n := cn fi 4096) hb with e | e | ⟨t', ht', rfl⟩
    · exact bad (Or.inl e)
    · exact bad (Or.inr e)
    · obtain ⟨k, hk, k1, rfl⟩ := cn_inv ht'
      obtain ⟨a, a0, a1, a2⟩ := isF_first hfj k k rfl hk ((hfi k hk).mp k1).1
      exact prI_M (by decide) hO (k_netOf_0 l s L k a hO hL F hF fi fj hfi hfj hk (by omega) k1 a1 a2) (m_netOf_0 l s L k a hO hL F hF fi fj hfi hfj hk (by omega) k1 a1 a2) (fun _ => rfl)
theorem pr_strips (l : Launch) (s : St) (hO : stOK s) (x : Int32) : prI l 1 Y_es_strips Y_mo_strips [.int x] s := by
  obtain ⟨o1, o2, o3, o4, o5, o6⟩ := id hO
  by_cases h1 : x < 1 ∨ 64 < x
  · exact prI_M (x := 0) (by decide) hO (k_strips_1 l s x _ h1) (m_strips_1 l s x h1) (fun q => by cases q)
  · have a1 := Int32.le_iff_toInt_le.mp (Int32.not_lt.mp (fun q => h1 (Or.inl q)))
    have a2 := Int32.le_iff_toInt_le.mp (Int32.not_lt.mp (fun q => h1 (Or.inr q)))
    have e1 : (1 : Int32).toInt = 1 := rfl
    have e2 : (64 : Int32).toInt = 64 := rfl
    have e0 : (0 : Int32).toInt = 0 := rfl
    obtain ⟨n, hn, rfl⟩ := nI_of (x := x) (fun q => by have := Int32.lt_iff_toInt_lt.mp q; omega)
    rw [nI_toInt hn] at a1 a2
    have hn1 : 1 ≤ n := by omega
    have hn2 : n ≤ 64 := by omega
    exact prI_M (c := 0) (s' := St' (s_B s) (s_m s) n (s_c s) (s_lay s) (s_k s) (s_X s) (s_Y s) (s_D s)) (by decide) ⟨o1, o2, o3, hn1, hn2, o6⟩ (k_strips_0 l s n (by omega) (by omega)) (m_strips_0 l s n (by omega) (by omega)) (fun _ => rfl)
theorem pr_edge (l : Launch) (s : St) (hO : stOK s) (x k w : Int32) : prI l 1 Y_es_edge Y_mo_edge [.int x, .int k, .int w] s := by
  have bad : ∀ e : (x < 0 ∨ nI (s_B s + s_m s) ≤ x) ∨ (w < 0 ∨ 5 ≤ w), prI l 1 Y_es_edge Y_mo_edge [.int x, .int k, .int w] s := fun e => prI_M (x := 0) (by decide) hO (k_edge_1a l s x k w _ e) (m_edge_1a l s x k w (e.elim Or.inl (fun q => Or.inr (Or.inr q)))) (fun q => by cases q)
  rcases lay_cs hO x with e | ⟨L, hL, rfl⟩
  · exact bad (Or.inl e)
  · rcases pk_ix w (n := 5) (by decide) with e | e | ⟨v, hv, rfl⟩
    · exact bad (Or.inr (Or.inl e))
    · exact bad (Or.inr (Or.inr e))
    · obtain ⟨F, hF⟩ := shw_ex s L
      have l1 := lyn_le F (y := 65) (Nat.le_refl _)
      have l2 := lyn_le (xtu F) (y := 65) (Nat.le_refl _)
      rcases pk_ix k (n := lyn F 65 + lyn (xtu F) 65) (by omega) with e | e | ⟨K, hK, rfl⟩
      · exact prI_M (x := 0) (by decide) hO (k_edge_1k l s L v k _ hO hL hv F hF (Or.inl e)) (m_edge_1a l s _ k _ (Or.inr (Or.inl e))) (fun q => by cases q)
      · by_cases hk : k < 0
        · exact prI_M (x := 0) (by decide) hO (k_edge_1k l s L v k _ hO hL hv F hF (Or.inl hk)) (m_edge_1a l s _ k _ (Or.inr (Or.inl hk))) (fun q => by cases q)
        · obtain ⟨K, hK, rfl⟩ := nI_of hk
          exact prI_M (x := 0) (by decide) hO (k_edge_1k l s L v _ _ hO hL hv F hF (Or.inr e)) (m_edge_1k l s L v K hO hL hv hK F hF ((nI_leI (by omega) hK).mp e)) (fun q => by cases q)
      · rcases Nat.lt_or_ge K (lyn F 65) with c | c
        · obtain ⟨y, y1, y2, y3⟩ := sm_inv c
          have ey : sm (fun y => cn (bb (xls F y)) 64) y = lyn F y := rfl
          obtain ⟨xx, x1, x2, x3⟩ := cn_inv (g := bb (xls F y)) (n := 64) (m := K - lyn F y) (by omega)
          have eK : K = lyn F y + cn (bb (xls F y)) xx := by omega
          subst eK
          exact prI_M (by decide) hO (k_edge_l l s L v y xx hO hL hv F hF (by omega) x1 x2) (m_edge_l l s L v y xx hO hL hv F hF (by omega) x1 x2) (fun _ => rfl)
        · obtain ⟨y, y1, y2, y3⟩ := sm_inv (c := fun y => cn (bb (xls (xtu F) y)) 64) (n := 65) (K := K - lyn F 65) (by have : sm (fun y => cn (bb (xls (xtu F) y)) 64) 65 = lyn (xtu F) 65 := rfl; omega)
          have ey : sm (fun y => cn (bb (xls (xtu F) y)) 64) y = lyn (xtu F) y := rfl
          obtain ⟨xx, x1, x2, x3⟩ := cn_inv (g := bb (xls (xtu F) y)) (n := 64) (m := K - lyn F 65 - lyn (xtu F) y) (by omega)
          have eK : K = lyn F 65 + (lyn (xtu F) y + cn (bb (xls (xtu F) y)) xx) := by omega
          subst eK
          exact prI_M (by decide) hO (k_edge_s l s L v y xx hO hL hv F hF (by omega) x1 x2) (m_edge_s l s L v y xx hO hL hv F hF (by omega) x1 x2) (fun _ => rfl)
theorem pr_trapezoid (l : Launch) (s : St) (hO : stOK s) (x k w : Int32) : prI l 1 Y_es_trapezoid Y_mo_trapezoid [.int x, .int k, .int w] s := by
  have bad : ∀ e : (x < 0 ∨ nI (s_B s + s_m s) ≤ x) ∨ (w < 0 ∨ 4 ≤ w), prI l 1 Y_es_trapezoid Y_mo_trapezoid [.int x, .int k, .int w] s := fun e => prI_M (x := 0) (by decide) hO (k_trap_1a l s x k w _ e) (m_trap_1a l s x k w (e.elim Or.inl (fun q => Or.inr (Or.inr q)))) (fun q => by cases q)
  rcases lay_cs hO x with e | ⟨L, hL, rfl⟩
  · exact bad (Or.inl e)
  · rcases pk_ix w (n := 4) (by decide) with e | e | ⟨v, hv, rfl⟩
    · exact bad (Or.inr (Or.inl e))
    · exact bad (Or.inr (Or.inr e))
    · obtain ⟨F, hF⟩ := shw_ex s L
      have l1 := byn_le F (y := 64) (Nat.le_refl _)
      by_cases hk : k < 0
      · exact prI_M (x := 0) (by decide) hO (k_trap_1k l s L v k _ hO hL hv F hF (Or.inl hk)) (m_trap_1a l s _ k _ (Or.inr (Or.inl hk))) (fun q => by cases q)
      · obtain ⟨K, hK, rfl⟩ := nI_of hk
        rcases Nat.lt_or_ge K (byn F 64) with c | c
        · obtain ⟨y, y1, y2, y3⟩ := sm_inv c
          have ey : sm (fun y => cn (bb (bxs F y)) 64) y = byn F y := rfl
          obtain ⟨xx, x1, x2, x3⟩ := cn_inv (g := bb (bxs F y)) (n := 64) (m := K - byn F y) (by omega)
          have eK : K = byn F y + cn (bb (bxs F y)) xx := by omega
          subst eK
          exact prI_M (by decide) hO (k_trap_0 l s L v y xx hO hL hv F hF y1 x1 x2) (m_trap_0 l s L v y xx hO hL hv F hF y1 x1 x2) (fun _ => rfl)
        · exact prI_M (x := 0) (by decide) hO (k_trap_1k l s L v _ _ hO hL hv F hF (Or.inr (nI_le c hK))) (m_trap_1k l s L v K hO hL hv hK F hF c) (fun q => by cases q)
