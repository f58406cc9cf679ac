/-! error, worst -/
section TE2
variable {S S1 S2 : RSt} {σ : AS}
theorem c_errorTop {β : BK} (hb : bk_ok β) (hk : pk β ≤ 18) (F : FO S 0 β) : fX1_errorTop 0 S = some (iL (er β), S) := by
  obtain ⟨c0, c1, c2, c3, c4⟩ := clA
  obtain ⟨i0, i1, i2, i3, i4⟩ := inA
  obtain ⟨r, e, h⟩ := lp_up (fun f i (s : Int64 × RSt) => fX1_errorTop_L4 0 f s.1 (nI i) s.2) (fun i s => s = (iL (sm i (fun i => dW β i * (dR β i * of β i))), S)) (pk β) (fun r => r = (iL (sm (pk β) (fun i => dW β i * (dR β i * of β i))), S))
    (fun f s hs => ⟨s, by
      subst hs
      show fX1_errorTop_L4 0 (f + 1) _ (nI (pk β)) S = _
      rw [fX1_errorTop_L4, F.2.1.1, if_pos (nI_le (Nat.le_refl _) (by omega))], hs⟩)
    (fun f i s hi hs => Or.inr (by
      subst hs
      show ∃ s' : Int64 × RSt, _ ∧ fX1_errorTop_L4 0 (f + 1) (iL _) (nI i) S = fX1_errorTop_L4 0 f s'.1 (nI (i + 1)) s'.2
      obtain ⟨p0, p1, p2, p3, p4⟩ := F.2.1.2 i hi
      refine ⟨_, rfl, ?_⟩
      rw [fX1_errorTop_L4, F.2.1.1, if_neg (nI_ge (b := pk β) hi (by omega)), ob_in_t (vp_in_nI (show i < 42 by omega) (by decide)), ob_in_t i4, ob_in_t (vp_in_nI (show i < 42 by omega) (by decide)), ob_in_t i3, ob_2t (c_offTop hb hk F hi), nI_clamp (show i < 2 ^ 31 by omega), c3, c4, p3, p4, i32_l, i32_l, rwt_t hb, rs_t hb, iL_mul, iL_mul, iL_add, nI_1, sm, Int.mul_assoc]))
    (pk β) 0 1000 ((0 : Int64), S) (by omega) (by omega) rfl
  subst h
  unfold fX1_errorTop
  have e : fX1_errorTop_L4 0 1000 (0 : Int64) (0 : Int32) S = some (iL (sm (pk β) (fun i => dW β i * (dR β i * of β i))), S) := e
  rw [ob_2t e, er_sum]
  rfl
theorem m_errorA {β : BK} (hb : bk_ok β) (hk : pk β ≤ 18) (O : MO S β) (x : Int32) : fX5_error_L15 1000 x 0 0 S = some (iL (bt β * sq β), S) := by
  obtain ⟨r, e, h⟩ := lp_up (fun f i (s : Int64 × RSt) => fX5_error_L15 f x s.1 (nI i) s.2) (fun i s => s = (iL (bt β * sm i (fun i => dW β i * (dR β i * dR β i))), S)) (pk β) (fun r => r = (iL (bt β * sq β), S))
    (fun f s hs => ⟨s, by
      subst hs
      show fX5_error_L15 (f + 1) x _ (nI (pk β)) S = _
      rw [fX5_error_L15, O.1.1, if_pos (nI_le (Nat.le_refl _) (by omega))], hs⟩)
    (fun f i s hi hs => Or.inr (by
      subst hs
      show ∃ s' : Int64 × RSt, _ ∧ fX5_error_L15 (f + 1) x (iL _) (nI i) S = fX5_error_L15 f x s'.1 (nI (i + 1)) s'.2
      obtain ⟨p0, p1, p2, p3, p4⟩ := O.1.2 i hi
      have i48 : vp_in (nI i) 48 := vp_in_nI (show i < 48 by omega) (by decide)
      refine ⟨_, rfl, ?_⟩
      rw [fX5_error_L15, O.1.1, if_neg (nI_ge (b := pk β) hi (by omega)), ob_in_t i48, ob_in_t i48, ob_in_t i48, nI_clamp (show i < 2 ^ 31 by omega), p3, p4, O.2.2.2.1, i32_l, i32_l, rwt_t hb, rs_t hb, iL_mul, iL_mul, iL_mul, iL_add, nI_1, sm]
      congr 1
      congr 1
      generalize dW β i = w
      generalize dR β i = r
      generalize bt β = p
      grind))
    (pk β) 0 1000 ((0 : Int64), S) (by omega) (by omega) (by rw [sm, Int.mul_zero]; rfl)
  subst h
  exact e
theorem m_errorB {β : BK} (hb : bk_ok β) (hk : pk β ≤ 18) (O : MO S β) (x : Int32) (v : Int) : fX5_error_L67 1000 x (iL v) 0 S = some (iL (v - sm (um β) (fun a => xx β a * dG β a)), S) := by
  have um7 := um_le hb
  have n8 := hb.2.1
  obtain ⟨r, e, h⟩ := lp_up (fun f i (s : Int64 × RSt) => fX5_error_L67 f x s.1 (nI i) s.2) (fun i s => s = (iL (v - sm i (fun a => xx β a * dG β a)), S)) (um β) (fun r => r = (iL (v - sm (um β) (fun a => xx β a * dG β a)), S))
    (fun f s hs => ⟨s, by
      subst hs
      show fX5_error_L67 (f + 1) x _ (nI (um β)) S = _
      rw [fX5_error_L67, O.2.2.1.1, if_pos (nI_le (Nat.le_refl _) (by omega))], hs⟩)
    (fun f i s hi hs => Or.inr (by
      subst hs
      show ∃ s' : Int64 × RSt, _ ∧ fX5_error_L67 (f + 1) x (iL _) (nI i) S = fX5_error_L67 f x s'.1 (nI (i + 1)) s'.2
      obtain ⟨u1, u2, u3⟩ := uU_ok hi
      have i8 : vp_in (nI i) 8 := vp_in_nI (show i < 8 by omega) (by decide)
      refine ⟨_, rfl, ?_⟩
      rw [fX5_error_L67, O.2.2.1.1, if_neg (nI_ge (b := um β) hi (by omega)), ob_in_t i8, nI_clamp (show i < 2 ^ 31 by omega), O.2.2.1.2 i hi, ob_in_t (vp_in_nI (show uU β i < 8 by omega) (by decide)), ob_in_t i8, nI_clamp (by omega), O.2.2.2.2.2 _ (show uU β i < 8 by omega), O.2.2.2.2.1 i hi, tp_un u1 u2, u3, iL_mul, iL_sub, nI_1, sm, Int.sub_sub]))
    (um β) 0 1000 (iL v, S) (by omega) (by omega) (by rw [sm, Int.sub_zero])
  subst h
  exact e
theorem er_lb {β : BK} (hb : bk_ok β) (hk : pk β ≤ 18) : lb (er β) := by
  have := er_b hb hk
  unfold lb
  omega
theorem J_error (J : JJ S1 S2 σ) (u : Int32) : JR (fX4_error u S1) (fX5_error u S2) := by
  obtain ⟨I, M, F⟩ := J
  have M0 := mI_t M 0
  have hk := as_pk I
  have hb := I.1.1.1
  obtain ⟨S', f1, f2, f3, f4⟩ := c_fitNow I F
  obtain ⟨T, e1, O1, s1⟩ := m_solves M0.1 (by have := I.1.2; omega)
  have MT := mI_gS M0 s1
  unfold fX4_error fX5_error
  rw [ob_1t f1, ob_1t e1, ob_2t (c_errorTop hb hk f2), f2.2.2.1, ob_2t (c_low (er_lb hb hk) (bt_pb hb hk) u), ob_2t (m_errorA hb hk O1 u), ob_2t (m_errorB hb hk O1 u _)]
  show JR _ (ob_2 (fX5_lowest (iL (er (as_b σ))) u T) _)
  rw [ob_2t (m_low (v := er (as_b σ)) (er_lb hb hk) (bt_pb hb hk) O1.2.2.2.1 u)]
  exact ⟨_, S', T, σ, rfl, rfl, f3, MT, f4⟩
/-! worst -/
def wf (β : BK) : Nat → Int32 × Int64
  | 0 => (-1, -1)
  | i + 1 => if lg_cmp (lN (of β i).natAbs) (wf β i).2 ≤ 0 then wf β i else (nI i, lN (of β i).natAbs)
theorem c_findWorst {β : BK} (hb : bk_ok β) (hk : pk β ≤ 18) (F : FO S 0 β) : fX1_findWorst 0 S = some ((wf β (pk β)).1, S) := by
  obtain ⟨r, e, h⟩ := lp_up (fun f i (s : (Int32 × Int64) × RSt) => fX1_findWorst_L9 0 f s.1.1 s.1.2 (nI i) s.2) (fun i s => s = (wf β i, S)) (pk β) (fun r => r = ((wf β (pk β)).1, S))
    (fun f s hs => ⟨((wf β (pk β)).1, S), by
      subst hs
      show fX1_findWorst_L9 0 (f + 1) _ _ (nI (pk β)) S = _
      rw [fX1_findWorst_L9, F.2.1.1, if_pos (nI_le (Nat.le_refl _) (by omega))], rfl⟩)
    (fun f i s hi hs => Or.inr (by
      subst hs
      show ∃ s' : (Int32 × Int64) × RSt, _ ∧ fX1_findWorst_L9 0 (f + 1) (wf β i).1 (wf β i).2 (nI i) S = fX1_findWorst_L9 0 f s'.1.1 s'.1.2 (nI (i + 1)) s'.2
      refine ⟨_, rfl, ?_⟩
      rw [fX1_findWorst_L9, F.2.1.1, if_neg (nI_ge (b := pk β) hi (by omega)), ob_2t (c_offTop hb hk F hi), c_abs (of_lb hb hk hi), nI_1, wf]
      by_cases c : lg_cmp (lN (of β i).natAbs) (wf β i).2 ≤ 0
      · rw [if_pos c, if_pos c]
      · rw [if_neg c, if_neg c]))
    (pk β) 0 1000 (((-1 : Int32), (-1 : Int64)), S) (by omega) (by omega) rfl
  subst h
  unfold fX1_findWorst
  have e : fX1_findWorst_L9 0 1000 (-1 : Int32) (-1 : Int64) (0 : Int32) S = some ((wf β (pk β)).1, S) := e
  rw [ob_2t e]
theorem i32_nle {x : Int32} : ¬ x ≤ 0 ↔ 0 < x := by
  rw [Int32.le_iff_toInt_le, Int32.lt_iff_toInt_lt]
  omega
theorem m_worstL {β : BK} (hb : bk_ok β) (hk : pk β ≤ 18) (O : MO S β) : fX5_worst_L19 1000 (-1) (-1) 0 S = some ((wf β (pk β)).1, S) := by
  obtain ⟨r, e, h⟩ := lp_up (fun f i (s : (Int32 × Int64) × RSt) => fX5_worst_L19 f s.1.1 s.1.2 (nI i) s.2) (fun i s => s = (wf β i, S)) (pk β) (fun r => r = ((wf β (pk β)).1, S))
    (fun f s hs => ⟨((wf β (pk β)).1, S), by
      subst hs
      show fX5_worst_L19 (f + 1) _ _ (nI (pk β)) S = _
      rw [fX5_worst_L19, O.1.1, if_pos (nI_le (Nat.le_refl _) (by omega))], rfl⟩)
    (fun f i s hi hs => Or.inr (by
      subst hs
      show ∃ s' : (Int32 × Int64) × RSt, _ ∧ fX5_worst_L19 (f + 1) (wf β i).1 (wf β i).2 (nI i) S = fX5_worst_L19 f s'.1.1 s'.1.2 (nI (i + 1)) s'.2
      refine ⟨_, rfl, ?_⟩
      rw [fX5_worst_L19, O.1.1, if_neg (nI_ge (b := pk β) hi (by omega)), ob_2t (m_offOf hb hk O hi), nI_1]
      have tt : ∀ V : Int64 → RSt → Option (Int32 × RSt), (if 0 ≤ lg_cmp (iL (of β i)) 0 then (ob_2 (fX5_offOf (nI i) S) fun r T => V r T) else (ob_2 (fX5_offOf (nI i) S) fun r T => V (-r) T)) = if 0 ≤ lg_cmp (iL (of β i)) 0 then V (iL (of β i)) S else V (- iL (of β i)) S := fun V => by rw [ob_2t (m_offOf hb hk O hi), ob_2t (m_offOf hb hk O hi)]
      refine Eq.trans (tt (fun (sJ : Int64) (T : RSt) => (if 0 < (lg_cmp sJ (wf β i).2) then (fX5_worst_L19 f (nI i) sJ (nI (i + 1)) T) else (fX5_worst_L19 f (wf β i).1 (wf β i).2 (nI (i + 1)) T)))) ?_
      refine Eq.trans (m_abs (of_lb hb hk hi) (T := fun (sJ : Int64) (T : RSt) => (if 0 < (lg_cmp sJ (wf β i).2) then (fX5_worst_L19 f (nI i) sJ (nI (i + 1)) T) else (fX5_worst_L19 f (wf β i).1 (wf β i).2 (nI (i + 1)) T))) (S := S)) ?_
      rw [wf]
      by_cases c : lg_cmp (lN (of β i).natAbs) (wf β i).2 ≤ 0
      · rw [if_pos c]
        show (if 0 < lg_cmp (lN (of β i).natAbs) (wf β i).2 then _ else _) = _
        rw [if_neg (fun z => (i32_nle.mpr z) c)]
      · rw [if_neg c]
        show (if 0 < lg_cmp (lN (of β i).natAbs) (wf β i).2 then _ else _) = _
        rw [if_pos (i32_nle.mp c)]))
    (pk β) 0 1000 (((-1 : Int32), (-1 : Int64)), S) (by omega) (by omega) rfl
  subst h
  exact e
theorem J_worst (J : JJ S1 S2 σ) : JR (fX4_worst S1) (fX5_worst S2) := by
  obtain ⟨I, M, F⟩ := J
  have M0 := mI_t M 0
  have hk := as_pk I
  have hb := I.1.1.1
  obtain ⟨S', f1, f2, f3, f4⟩ := c_fitNow I F
  obtain ⟨T, e1, O1, s1⟩ := m_solves M0.1 (by have := I.1.2; omega)
  have MT := mI_gS M0 s1
  unfold fX4_worst fX5_worst
  rw [ob_1t f1, ob_1t e1, ob_2t (c_findWorst hb hk f2), ob_2t (m_worstL hb hk O1)]
  exact ⟨_, S', T, σ, rfl, rfl, f3, MT, f4⟩
/-! without, revised -/
def fZ : RSt → RSt → Prop := fr (fun k => (3 ≤ k ∧ k < 6) ∨ k = 41 ∨ k = 42) (fun k => k = 1) (fun a => a = 2 ∨ a = 3 ∨ a = 27 ∨ (70 ≤ a ∧ a < 112)) (fun a => a = 1 ∨ a = 3 ∨ (12 ≤ a ∧ a < 20))
theorem fZ_B {S S' : RSt} (f : fB 1 S S') : fZ S S' := fr_mo f (fun _ z => by omega) (fun _ z => z.elim) (fun _ z => by omega) (fun _ z => z.elim)
theorem fZ_S {S S' : RSt} (f : fS 1 S S') : fZ S S' := fr_mo f (fun _ z => by omega) (fun _ z => z) (fun _ z => by omega) (fun _ z => by omega)
theorem cI_fZ {S' : RSt} (I : cI S σ) (f : fZ S S') : cI S' σ := cI_fr I f (by omega) (by omega) (by omega) (by omega) (by omega) (by omega)
theorem FI_fZ {S' : RSt} (I : cI S σ) (F : FI S σ) (f : fZ S S') : FI S' σ := by
  rcases F with F | ⟨F1, F2⟩
  · exact Or.inl (by rw [f.1 54 (by omega)]; exact F)
  · exact Or.inr ⟨by rw [f.1 54 (by omega)]; exact F1, FO_fr (as_pk I) F2 f (by omega) (by omega) (by omega) (by omega) (by omega) (by omega)⟩
theorem J_without (J : JJ S1 S2 σ) (x y u : Int32) : JT 0 (fX4_without x y u S1) (fX5_without x y u S2) := by
  obtain ⟨I, M, F⟩ := J
  have M0 := mI_t M 0
  have hb := I.1.1.1
  have n8 := hb.2.1
  have h6 := hb.2.2.1
  have ref : JT (0 : Int64) (some (none, S1)) (ob_2 (fX5_refuse (st_si S2 0 0)) fun r S => some (r.toInt64, S)) := ⟨none, S1, st_si (st_si S2 0 0) 0 1, σ, rfl, rfl, st_i_eq, I, mI_t M0 1, F⟩
  unfold fX4_without fX5_without
  rcases ix_or x (n := bk_h (as_b σ)) (by omega) with h | ⟨a, ha, rfl⟩
  · rw [ob_2t (c_hasHome0 I.1.1 h), if_pos rfl, ob_2t (m_isHome0 M0.1 h), if_pos rfl]
    exact ref
  · rw [ob_2t (c_hasHome1 I.1.1 ha), if_neg ne0, ob_2t (m_isHome1 M0.1 ha), if_neg ne0]
    rcases ix_or y (n := bk_n (as_b σ)) (by omega) with h | ⟨m, hm, rfl⟩
    · rw [ob_2t (c_hasMonth0 I.1.1 h), if_pos rfl, ob_2t (m_isMonth0 M0.1 h), if_pos rfl]
      exact ref
    · rw [ob_2t (c_hasMonth1 I.1.1 hm), if_neg ne0, ob_2t (m_isMonth1 M0.1 hm), if_neg ne0]
      obtain ⟨A1, d1, B1, g1⟩ := c_copyFrom (j := 1) I.1.1 (by decide)
      obtain ⟨A2, d2, B2, g2⟩ := c_clearHome B1 ha
      have hc' := bk_c_clr (β := as_b σ) a (bk_n (as_b σ))
      have c18 := I.1.2
      obtain ⟨A3, d3, O3, g3⟩ := c_solve (j := 1) (u := 1) (by decide) (by decide) B2 (by omega)
      obtain ⟨T, e1, O1, s1⟩ := m_solvesBut M0.1 (by omega) ha
      have ok' := B2.1
      have hk' : pk (bk_clr (as_b σ) a (bk_n (as_b σ))) ≤ 18 := by
        have := pk_c ok'
        omega
      have MT := mI_gS M0 s1
      have t0 : st_i T 0 = 0 := by rw [s1.1 0 (by omega), st_i_eq]
      have fz : fZ S1 A3 := fr_tr (fZ_B g1) (fr_tr (fZ_B g2) (fZ_S g3))
      rw [ob_1t d1, ob_1t d2, ob_1t d3, ob_2t (c_tell ok' hk' O3 hm u), ob_1t e1, ob_in_t (vp_in_nI (show m < 8 by omega) (by decide)), nI_clamp (by omega), O1.2.2.2.2.2 m (by omega), ob_2t (m_low (tp_lb ok' hk' hm) (bt_pb ok' hk') O1.2.2.2.1 u)]
      exact ⟨some _, A3, T, σ, rfl, rfl, t0, cI_fZ I fz, MT, FI_fZ I F fz⟩
theorem J_revised (J : JJ S1 S2 σ) (x y z t u : Int32) : JT 0 (fX4_revised x y z t u S1) (fX5_revised x y z t u S2) := by
  obtain ⟨I, M, F⟩ := J
  have M0 := mI_t M 0
  have hb := I.1.1.1
  have n8 := hb.2.1
  have h6 := hb.2.2.1
  have ref : JT (0 : Int64) (some (none, S1)) (ob_2 (fX5_refuse (st_si S2 0 0)) fun r S => some (r.toInt64, S)) := ⟨none, S1, st_si (st_si S2 0 0) 0 1, σ, rfl, rfl, st_i_eq, I, mI_t M0 1, F⟩
  unfold fX4_revised fX5_revised
  rcases ix_or t (n := bk_n (as_b σ)) (by omega) with h | ⟨m, hm, rfl⟩
  · rw [ob_2t (c_hasMonth0 I.1.1 h), if_pos rfl, ob_2t (m_isMonth0 M0.1 h), if_pos rfl]
    exact ref
  · rw [ob_2t (c_hasMonth1 I.1.1 hm), if_neg ne0, ob_2t (m_isMonth1 M0.1 hm), if_neg ne0]
    by_cases hs : sOK (as_b σ) x y z
    · obtain ⟨a, b, v, ha, hbn, hv, rfl, rfl, rfl, h0⟩ := hs
      obtain ⟨A1, d1, B1, g1⟩ := c_copyFrom (j := 1) I.1.1 (by decide)
      obtain ⟨A2, d2, B2, g2, c2⟩ := c_putSale1 B1 ha hbn h0 hv
      have c18 := I.1.2
      obtain ⟨A3, d3, O3, g3⟩ := c_solve (j := 1) (u := 1) (by decide) (by decide) B2 (by omega)
      have ok' := B2.1
      have hk' : pk (bk_set (as_b σ) (8 * a + b) (v + 1)) ≤ 18 := by
        have := pk_c ok'
        omega
      have fz : fZ S1 A3 := fr_tr (fZ_B g1) (fr_tr (fZ_B g2) (fZ_S g3))
      have W := m_write M0.1 ha hbn (x := v + 1) (by omega)
      obtain ⟨T, e1, O1, s1⟩ := m_solves W (by omega)
      have k58 : 10 + (8 * a + b) < 58 := by omega
      rw [ob_2t (c_canTake1 I.1.1 ha hbn h0 hv), if_neg ne0, ob_1t d1, ob_1t d2, ob_1t d3, ob_2t (c_tell ok' hk' O3 hm u), ob_2t (m_canSell1 M0.1 ha hbn h0 hv), if_neg ne0, ob_2t m_at, ob_in_t (vp_in_nI k58 (by decide)), nI_clamp (by omega), nI_1, ob_1t e1, ob_2t m_at, ob_in_t (vp_in_nI k58 (by decide)), ob_in_t (vp_in_nI (show m < 8 by omega) (by decide)), nI_clamp (by omega), nI_clamp (by omega), st_g_sa, O1.2.2.2.2.2 m (by omega), ob_2t (m_low (S := st_sa T 1 (10 + (8 * a + b)) 0) (tp_lb ok' hk' hm) (bt_pb ok' hk') (by rw [st_j_sa]; exact O1.2.2.2.1) u)]
      have row : ∀ k, st_a (st_sa T 1 (10 + (8 * a + b)) 0) 1 k = st_a (st_si S2 0 0) 1 k := fun k => by
        by_cases c : k = 10 + (8 * a + b)
        · rw [sa_p rfl c, c, m_v M0.1 (by omega), h0]
          rfl
        · rw [sa_n (Or.inr c), s1.2.2.1 1 (by omega), sa_n (Or.inr c)]
      have fm : fr (fun k => k = 13 ∨ k = 14) (fun k => k = 1) (fun a => a = 1 ∨ (4 ≤ a ∧ a < 11)) (fun a => a < 3) (st_si S2 0 0) (st_sa T 1 (10 + (8 * a + b)) 0) := fr_tr (fr_sa (Or.inl rfl)) (fr_tr (fr_mo s1 (fun _ z => z) (fun _ z => z) (fun _ z => Or.inr z) (fun _ z => z)) (fr_sa (Or.inl rfl)))
      have MT : mI (st_sa T 1 (10 + (8 * a + b)) 0) σ := ⟨mB_row M0.1 (fun k _ => row (0 + k)), mH_fr M0.2.1 fm (by omega) (by omega), mT_fr M0.2.2 fm (by omega) (by omega) (by omega)⟩
      refine ⟨some _, A3, _, σ, rfl, rfl, ?_, cI_fZ I fz, MT, FI_fZ I F fz⟩
      rw [st_i_sa, s1.1 0 (by omega), st_i_sa, st_i_eq]
      rfl
    · rw [ob_2t (c_canTake_n I.1.1 hs), if_pos rfl, ob_2t (m_canSell_n M0.1 hs), if_pos rfl]
      exact ref
/-! worth -/
/-- the sale that a worth goes from: 0 none, else month and one -/
def sdn (β : BK) (h : Nat) : Nat → Nat
  | 0 => 0
  | m + 1 => if bk_v β (8 * h + m) = 0 then sdn β h m else m + 1
def sup (β : BK) (h : Nat) (m : Nat) : Nat → Nat
  | 0 => 0
  | d + 1 => if bk_v β (8 * h + m) = 0 then sup β h (m + 1) d else m + 1
def sn (β : BK) (h m : Nat) : Nat := if sdn β h (m + 1) = 0 then sup β h (m + 1) (bk_n β - (m + 1)) else sdn β h (m + 1)
theorem sup_z {β : BK} (hb : bk_ok β) {h : Nat} : ∀ (d m : Nat), bk_n β ≤ m → m + d ≤ 8 → sup β h m d = 0
  | 0, _, _, _ => rfl
  | d + 1, m, h1, h2 => by
    rw [sup, if_pos, sup_z hb d (m + 1) (by omega) (by omega)]
    by_cases z : bk_v β (8 * h + m) = 0
    · exact z
    · have := hb.2.2.2.2.2.2 h m (by omega) z
      omega
theorem sup_8 {β : BK} (hb : bk_ok β) {h : Nat} : ∀ (d m e : Nat), m + d = bk_n β → m + d + e ≤ 8 → sup β h m (d + e) = sup β h m d
  | 0, m, e, h1, h2 => by
    rw [Nat.zero_add, sup_z hb e m (by omega) (by omega)]
    rfl
  | d + 1, m, e, h1, h2 => by
    rw [show d + 1 + e = (d + e) + 1 by omega, sup, sup, sup_8 hb d (m + 1) e (by omega) (by omega)]
theorem c_saleN {β : BK} (B : cB S 0 β) {h m : Nat} (hh : h < bk_h β) (hm : m < bk_n β) : fX0_saleNearest 0 (nI h) (nI m) S = some (nI (sn β h m) - 1, S) := by
  have n8 := B.1.2.1
  obtain ⟨Z, e, q⟩ := lp_dn (fun f i s => fX0_saleNearest_L2 0 f (nI h) (nI m) (nI i - 1) s) (fun i s => s = S ∧ i ≤ m + 1 ∧ sdn β h i = sdn β h (m + 1)) (fun r => (r = .inr S ∧ sdn β h (m + 1) = 0) ∨ (r = .inl (nI (sdn β h (m + 1)) - 1, S) ∧ sdn β h (m + 1) ≠ 0))
    (fun f s hs => ⟨.inr s, by
      show fX0_saleNearest_L2 0 (f + 1) (nI h) (nI m) (nI 0 - 1) s = _
      rw [fX0_saleNearest_L2, if_pos (show nI 0 - 1 < 0 by decide)], Or.inl ⟨by rw [hs.1], hs.2.2.symm⟩⟩)
    (fun f i s hs => by
      obtain ⟨rfl, h1, h2⟩ := hs
      show (∃ r, fX0_saleNearest_L2 0 (f + 1) (nI h) (nI m) (nI (i + 1) - 1) s = some r ∧ _) ∨ ∃ s', _ ∧ fX0_saleNearest_L2 0 (f + 1) (nI h) (nI m) (nI (i + 1) - 1) s = fX0_saleNearest_L2 0 f (nI h) (nI m) (nI i - 1) s'
      rw [nI_pred, fX0_saleNearest_L2, if_neg (nI_pos (by omega)), ob_2t (c_levelAt1 B hh (by omega))]
      rw [sdn] at h2
      by_cases z : bk_v β (8 * h + i) = 0
      · rw [if_pos z] at h2
        refine Or.inr ⟨s, ⟨rfl, by omega, h2⟩, ?_⟩
        rw [if_pos ((nI_m1 (c_v30 B _)).mpr z), Int32.sub_eq_add_neg]
      · rw [if_neg z] at h2
        refine Or.inl ⟨.inl (nI i, s), by rw [if_neg (fun w => z ((nI_m1 (c_v30 B _)).mp w))], Or.inr ⟨?_, by omega⟩⟩
        rw [← h2, nI_pred])
    (m + 1) 1000 S (by omega) ⟨rfl, Nat.le_refl _, rfl⟩
  have e : fX0_saleNearest_L2 0 1000 (nI h) (nI m) (nI (m + 1) - 1) S = some Z := e
  rw [nI_pred] at e
  unfold fX0_saleNearest sn
  rw [ob_1t e]
  rcases q with ⟨rfl, q⟩ | ⟨rfl, q⟩
  · rw [if_pos q]
    show ob_1 (fX0_saleNearest_L28 0 1000 (nI h) (nI m + 1) S) _ = _
    rw [nI_1]
    obtain ⟨Z, e, q⟩ := lp_up (fun f i s => fX0_saleNearest_L28 0 f (nI h) (nI i) s) (fun i s => s = S ∧ m < i ∧ sup β h i (bk_n β - i) = sup β h (m + 1) (bk_n β - (m + 1))) (bk_n β) (fun r => (r = .inr S ∧ sup β h (m + 1) (bk_n β - (m + 1)) = 0) ∨ (r = .inl (nI (sup β h (m + 1) (bk_n β - (m + 1))) - 1, S) ∧ sup β h (m + 1) (bk_n β - (m + 1)) ≠ 0))
      (fun f s hs => ⟨.inr s, by
        show fX0_saleNearest_L28 0 (f + 1) (nI h) (nI (bk_n β)) s = _
        rw [fX0_saleNearest_L28, hs.1, B.2.1, if_pos (nI_le (Nat.le_refl _) (by omega))], Or.inl ⟨by rw [hs.1], by rw [← hs.2.2, Nat.sub_self]; rfl⟩⟩)
      (fun f i s hi hs => by
        obtain ⟨rfl, h1, h2⟩ := hs
        show (∃ r, fX0_saleNearest_L28 0 (f + 1) (nI h) (nI i) s = some r ∧ _) ∨ ∃ s', _ ∧ fX0_saleNearest_L28 0 (f + 1) (nI h) (nI i) s = fX0_saleNearest_L28 0 f (nI h) (nI (i + 1)) s'
        rw [fX0_saleNearest_L28, B.2.1, if_neg (nI_ge (b := bk_n β) hi (by omega)), ob_2t (c_levelAt1 B hh hi), nI_1]
        rw [show bk_n β - i = (bk_n β - (i + 1)) + 1 by omega, sup] at h2
        by_cases z : bk_v β (8 * h + i) = 0
        · rw [if_pos z] at h2
          exact Or.inr ⟨s, ⟨rfl, by omega, h2⟩, by rw [if_pos ((nI_m1 (c_v30 B _)).mpr z)]⟩
        · rw [if_neg z] at h2
          refine Or.inl ⟨.inl (nI i, s), by rw [if_neg (fun w => z ((nI_m1 (c_v30 B _)).mp w))], Or.inr ⟨?_, by omega⟩⟩
          rw [← h2, nI_pred])
      (bk_n β - (m + 1)) (m + 1) 1000 S (by omega) (by omega) ⟨rfl, by omega, rfl⟩
    have e : fX0_saleNearest_L28 0 1000 (nI h) (nI (m + 1)) S = some Z := e
    rw [ob_1t e]
    rcases q with ⟨rfl, q⟩ | ⟨rfl, q⟩
    · rw [q]
      rfl
    · rfl
  · rw [if_neg q]
    rfl
theorem m_saleF {β : BK} (B : mB S 1 0 β) {h m : Nat} (hh : h < bk_h β) (hm : m < bk_n β) : fX5_saleFor (nI h) (nI m) S = some (nI (sn β h m) - 1, S) := by
  have n8 := B.1.2.1
  have h6 := B.1.2.2.1
  obtain ⟨Z, e, q⟩ := lp_dn (fun f i s => fX5_saleFor_L2 f (nI h) (nI m) (nI i - 1) s) (fun i s => s = S ∧ i ≤ m + 1 ∧ sdn β h i = sdn β h (m + 1)) (fun r => (r = .inr S ∧ sdn β h (m + 1) = 0) ∨ (r = .inl (nI (sdn β h (m + 1)) - 1, S) ∧ sdn β h (m + 1) ≠ 0))
    (fun f s hs => ⟨.inr s, by
      show fX5_saleFor_L2 (f + 1) (nI h) (nI m) (nI 0 - 1) s = _
      rw [fX5_saleFor_L2, if_pos (show nI 0 - 1 < 0 by decide)], Or.inl ⟨by rw [hs.1], hs.2.2.symm⟩⟩)
    (fun f i s hs => by
      obtain ⟨rfl, h1, h2⟩ := hs
      show (∃ r, fX5_saleFor_L2 (f + 1) (nI h) (nI m) (nI (i + 1) - 1) s = some r ∧ _) ∨ ∃ s', _ ∧ fX5_saleFor_L2 (f + 1) (nI h) (nI m) (nI (i + 1) - 1) s = fX5_saleFor_L2 f (nI h) (nI m) (nI i - 1) s'
      rw [nI_pred, fX5_saleFor_L2, if_neg (nI_pos (by omega))]
      rw [sdn] at h2
      by_cases z : bk_v β (8 * h + i) = 0
      · rw [if_pos z] at h2
        refine Or.inr ⟨s, ⟨rfl, by omega, h2⟩, ?_⟩
        rw [ob_2t (m_isSold0 B (by omega) (by omega) z), if_pos rfl, Int32.sub_eq_add_neg]
      · rw [if_neg z] at h2
        refine Or.inl ⟨.inl (nI i, s), by rw [ob_2t (m_isSold1 B (by omega) (by omega) z), if_neg ne0], Or.inr ⟨?_, by omega⟩⟩
        rw [← h2, nI_pred])
    (m + 1) 1000 S (by omega) ⟨rfl, Nat.le_refl _, rfl⟩
  have e : fX5_saleFor_L2 1000 (nI h) (nI m) (nI (m + 1) - 1) S = some Z := e
  rw [nI_pred] at e
  unfold fX5_saleFor sn
  rw [ob_1t e]
  rcases q with ⟨rfl, q⟩ | ⟨rfl, q⟩
  · rw [if_pos q]
    show ob_1 (fX5_saleFor_L25 1000 (nI h) (nI m) S) _ = _
    have s8 := sup_8 B.1 (h := h) (bk_n β - (m + 1)) (m + 1) (8 - bk_n β) (by omega) (by omega)
    rw [show bk_n β - (m + 1) + (8 - bk_n β) = 8 - (m + 1) by omega] at s8
    rw [← s8]
    have zm : bk_v β (8 * h + m) = 0 := by
      rw [sdn] at q
      by_cases z : bk_v β (8 * h + m) = 0
      · exact z
      · rw [if_neg z] at q
        omega
    have sm' : sup β h m (8 - m) = sup β h (m + 1) (8 - (m + 1)) := by
      rw [show 8 - m = (8 - (m + 1)) + 1 by omega, sup, if_pos zm]
    obtain ⟨Z, e, q⟩ := lp_up (fun f i s => fX5_saleFor_L25 f (nI h) (nI i) s) (fun i s => s = S ∧ sup β h i (8 - i) = sup β h (m + 1) (8 - (m + 1))) 8 (fun r => (r = .inr S ∧ sup β h (m + 1) (8 - (m + 1)) = 0) ∨ (r = .inl (nI (sup β h (m + 1) (8 - (m + 1))) - 1, S) ∧ sup β h (m + 1) (8 - (m + 1)) ≠ 0))
      (fun f s hs => ⟨.inr s, by
        show fX5_saleFor_L25 (f + 1) (nI h) (nI 8) s = _
        rw [fX5_saleFor_L25, if_pos (show (8 : Int32) ≤ nI 8 by decide)], Or.inl ⟨by rw [hs.1], by rw [← hs.2]; rfl⟩⟩)
      (fun f i s hi hs => by
        obtain ⟨rfl, h2⟩ := hs
        show (∃ r, fX5_saleFor_L25 (f + 1) (nI h) (nI i) s = some r ∧ _) ∨ ∃ s', _ ∧ fX5_saleFor_L25 (f + 1) (nI h) (nI i) s = fX5_saleFor_L25 f (nI h) (nI (i + 1)) s'
        rw [fX5_saleFor_L25, if_neg (show ¬ (8 : Int32) ≤ nI i from nI_ge (b := 8) hi (by decide)), nI_1]
        rw [show 8 - i = (8 - (i + 1)) + 1 by omega, sup] at h2
        by_cases z : bk_v β (8 * h + i) = 0
        · rw [if_pos z] at h2
          exact Or.inr ⟨s, ⟨rfl, h2⟩, by rw [ob_2t (m_isSold0 B (by omega) hi z), if_pos rfl]⟩
        · rw [if_neg z] at h2
          refine Or.inl ⟨.inl (nI i, s), by rw [ob_2t (m_isSold1 B (by omega) hi z), if_neg ne0], Or.inr ⟨?_, by omega⟩⟩
          rw [← h2, nI_pred])
      (8 - m) m 1000 S (by omega) (by omega) ⟨rfl, sm'⟩
    have e : fX5_saleFor_L25 1000 (nI h) (nI m) S = some Z := e
    rw [ob_1t e]
    rcases q with ⟨rfl, q⟩ | ⟨rfl, q⟩
    · rw [q]
      rfl
    · rfl
  · rw [if_neg q]
    rfl
theorem sdn_le (β : BK) (h : Nat) : ∀ m, sdn β h m ≤ m
  | 0 => Nat.le_refl 0
  | m + 1 => by
    have := sdn_le β h m
    rw [sdn]
    split <;> omega
theorem sup_le (β : BK) (h : Nat) : ∀ d m, sup β h m d ≤ m + d
  | 0, m => Nat.zero_le _
  | d + 1, m => by
    have := sup_le β h d (m + 1)
    rw [sup]
    split <;> omega
theorem sn_le {β : BK} {h m : Nat} (hm : m < bk_n β) : sn β h m ≤ bk_n β := by
  have h1 := sdn_le β h (m + 1)
  have h2 := sup_le β h (bk_n β - (m + 1)) (m + 1)
  unfold sn
  split <;> omega
theorem xor_s {v p : Int} (hv : lb v) (hp : pb p) : (0 ≤ lg_cmp (iL v ^^^ iL p) 0) ↔ 0 ≤ v := by
  have ms : ∀ w : Int64, (0 ≤ lg_cmp w 0) ↔ ¬ w.toBitVec.msb = true := fun w => by
    have e : w.toBitVec.msb = decide (w.toBitVec.toInt < 0) := BitVec.msb_eq_toInt
    have e2 : w.toBitVec.toInt = w.toInt := rfl
    rw [e, e2]
    have hw : w = iL w.toInt := (Int64.ofInt_toInt w).symm
    have b1 := Int64.le_toInt w
    have b2 := Int64.toInt_lt w
    unfold lg_cmp
    have g1 : (0 < w) ↔ 0 < w.toInt := Int64.lt_iff_toInt_lt
    have g2 : (w = 0) ↔ w.toInt = 0 := ⟨fun z => by rw [z]; rfl, fun z => by rw [hw, z]; rfl⟩
    by_cases c : 0 < w.toInt
    · rw [if_pos (show w > 0 from g1.mpr c)]
      exact ⟨fun _ => by simp; omega, fun _ => by decide⟩
    · rw [if_neg (show ¬ w > 0 from fun z => c (g1.mp z))]
      by_cases d : w.toInt = 0
      · rw [if_pos (g2.mpr d)]
        exact ⟨fun _ => by simp; omega, fun _ => by decide⟩
      · rw [if_neg (fun z => d (g2.mp z))]
        exact ⟨fun z => absurd z (by decide), fun z => absurd (by simp; omega) z⟩
  have hx : (iL v ^^^ iL p).toBitVec.msb = (iL v).toBitVec.msb := by
    have hp0 : (iL p).toBitVec.msb = false := by
      have e : (iL p).toBitVec.msb = decide ((iL p).toBitVec.toInt < 0) := BitVec.msb_eq_toInt
      have e2 : (iL p).toBitVec.toInt = p := iL_t (by unfold pb at hp; omega) (by unfold pb at hp; omega)
      rw [e, e2]
      unfold pb at hp
      simp
      omega
    rw [Int64.toBitVec_xor, BitVec.msb_xor, hp0, Bool.xor_false]
  rw [ms, hx, ← ms]
  exact lg_ge hv
theorem J_worth (J : JJ S1 S2 σ) (x y : Int32) : JR (fX4_worth x y S1) (fX5_worth x y S2) := by
  obtain ⟨I, M, F⟩ := J
  have M0 := mI_t M 0
  have hk := as_pk I
  have hb := I.1.1.1
  have n8 := hb.2.1
  have h6 := hb.2.2.1
  have hπ := (pt_ok (β := as_b σ) (Nat.le_refl _)).2.1
  unfold fX4_worth fX5_worth
  rcases ix_or x (n := bk_h (as_b σ)) (by omega) with h | ⟨a, ha, rfl⟩
  · rw [ob_2t (c_hasHome0 I.1.1 h), if_pos rfl, ob_2t (m_isHome0 M0.1 h), if_pos rfl]
    exact ⟨_, S1, _, σ, rfl, rfl, I, M0, F⟩
  rw [ob_2t (c_hasHome1 I.1.1 ha), if_neg ne0, ob_2t (m_isHome1 M0.1 ha), if_neg ne0]
  rcases ix_or y (n := bk_n (as_b σ)) (by omega) with h | ⟨m, hm, rfl⟩
  · rw [ob_2t (c_hasMonth0 I.1.1 h), if_pos rfl, ob_2t (m_isMonth0 M0.1 h), if_pos rfl]
    exact ⟨_, S1, _, σ, rfl, rfl, I, M0, F⟩
  obtain ⟨S', f1, f2, f3, f4⟩ := c_fitNow I F
  obtain ⟨T, e1, O1, s1⟩ := m_solves M0.1 (by have := I.1.2; omega)
  have MT := mI_gS M0 s1
  rw [ob_2t (c_hasMonth1 I.1.1 hm), if_neg ne0, ob_2t (m_isMonth1 M0.1 hm), if_neg ne0, ob_2t (c_saleN I.1.1 ha hm), ob_2t (m_saleF M0.1 ha hm), ob_1t f1, ob_1t e1]
  have sl := sn_le (β := as_b σ) (h := a) hm
  by_cases z : sn (as_b σ) a m = 0
  · rw [if_pos ((nI_lst (by omega)).mpr z), if_pos ((nI_lst (by omega)).mpr z)]
    exact ⟨_, S', T, σ, rfl, rfl, f3, MT, f4⟩
  rw [if_neg (fun w => z ((nI_lst (by omega)).mp w)), if_neg (fun w => z ((nI_lst (by omega)).mp w))]
  obtain ⟨k, hk1⟩ : ∃ k, sn (as_b σ) a m = k + 1 := ⟨sn (as_b σ) a m - 1, by omega⟩
  have k8 : k < bk_n (as_b σ) := by omega
  have ik : vp_in (nI k) 8 := vp_in_nI (show k < 8 by omega) (by decide)
  have im : vp_in (nI m) 8 := vp_in_nI (show m < 8 by omega) (by decide)
  have hpm := hπ m hm
  have hpk := hπ k k8
  rw [hk1, nI_pred, ob_in_t ik, ob_in_t im, ob_in_t im, ob_in_t ik, ob_in_t ik, ob_in_t im, ob_in_t im, ob_in_t ik, nI_clamp (show k < 2 ^ 31 by omega), nI_clamp (show m < 2 ^ 31 by omega), f2.1.2 k k8, f2.1.2 m hm, O1.2.1 k k8, O1.2.1 m hm]
  by_cases c : pt (as_b σ) k = pt (as_b σ) m
  · have bp := bt_pb hb hk
    have bp' := bp
    unfold pb at bp'
    have t1 := tp_b hb hk hm
    have t2 := tp_b hb hk k8
    have vl : lb (tp (as_b σ) m - tp (as_b σ) k) := by
      unfold lb
      omega
    have pz : ¬ iL (bt (as_b σ)) = 0 := fun w => absurd ((iL_eq (y := 0) (by omega) (by omega) (by omega) (by omega)).mp w) (by omega)
    have pp : 0 < lg_cmp (iL (bt (as_b σ))) 0 := by
      have e : (0 < iL (bt (as_b σ))) ↔ 0 < bt (as_b σ) := iL_lt (x := 0) (by omega) (by omega) (by omega) (by omega)
      unfold lg_cmp
      rw [if_pos (show iL (bt (as_b σ)) > 0 from e.mpr (by omega))]
      decide
    rw [if_pos (show nI (pt (as_b σ) k) = nI (pt (as_b σ) m) by rw [c]), if_pos (show nI (pt (as_b σ) k) = nI (pt (as_b σ) m) by rw [c]), f2.2.2.1, if_pos pp, ob_2t (c_levelAt1 f3.1.1 ha k8), f2.2.2.1, f2.2.2.2 m hm, f2.2.2.2 k k8, O1.2.2.2.1, O1.2.2.2.2.2 m (by omega), O1.2.2.2.2.2 k (by omega), iL_sub, ob_nz_t pz]
    have fl : ∀ q : Int64, (∀ S : RSt, fJ9_floorDiv_f86c9 (iL (tp (as_b σ) m - tp (as_b σ) k)) (iL (bt (as_b σ))) S = some (q, S)) → JR (ob_2 (fJ9_floorDiv_f86c9 (iL (tp (as_b σ) m - tp (as_b σ) k)) (iL (bt (as_b σ))) S') fun r_28 S_29 => some (nI (bk_v (as_b σ) (8 * a + k)) - 1 + r_28.toInt32, S_29)) (ob_2 (fX5_levelOf (nI a) (nI k) T) fun r_27 S_28 => some (r_27 + q.toInt32, S_28)) := fun q hq => by
      rw [ob_2t (hq S'), ob_2t (m_levelOf MT.1 (by omega) (by omega))]
      exact ⟨_, S', T, σ, rfl, rfl, f3, MT, f4⟩
    by_cases n0 : 0 ≤ tp (as_b σ) m - tp (as_b σ) k
    · rw [ob_jp ((lg_ge vl).mpr n0)]
      refine fl _ (fun S => ?_)
      unfold fJ9_floorDiv_f86c9
      rw [ob_nz_t pz, if_pos ((xor_s vl bp).mpr n0)]
    · rw [ob_jn (fun w => n0 ((lg_ge vl).mp w)), ob_nz_t pz]
      generalize hX : iL (tp (as_b σ) m - tp (as_b σ) k) = X at *
      generalize hY : iL (bt (as_b σ)) = Y at *
      have eqv : (lg_cmp (X - X / Y * Y) 0 = 0) ↔ (lg_cmp (X / Y * Y) X = 0) := by
        have lz : ∀ u v : Int64, (lg_cmp u v = 0) ↔ u = v := fun u v => by
          unfold lg_cmp
          by_cases g : u > v
          · rw [if_pos g]
            exact ⟨fun w => absurd w (by decide), fun w => by rw [w] at g; exact absurd g Int64.lt_irrefl⟩
          · rw [if_neg g]
            by_cases e : u = v
            · rw [if_pos e]
              exact ⟨fun _ => e, fun _ => rfl⟩
            · rw [if_neg e]
              exact ⟨fun w => absurd w (by decide), fun w => absurd w e⟩
        rw [lz, lz]
        exact ⟨fun w => ((Int64.sub_eq_iff_eq_add.mp w).trans (Int64.zero_add _)).symm, fun w => by rw [w, Int64.sub_self]⟩
      by_cases d : lg_cmp (X / Y * Y) X = 0
      · rw [if_pos (eqv.mpr d)]
        refine fl _ (fun S => ?_)
        unfold fJ9_floorDiv_f86c9
        rw [ob_nz_t pz, if_neg (fun w => n0 (by rw [← hX, ← hY] at w; exact (xor_s vl bp).mp w)), if_pos d]
      · rw [if_neg (fun w => d (eqv.mp w))]
        refine fl _ (fun S => ?_)
        unfold fJ9_floorDiv_f86c9
        rw [ob_nz_t pz, if_neg (fun w => n0 (by rw [← hX, ← hY] at w; exact (xor_s vl bp).mp w)), if_neg d]
  · rw [if_neg (fun w => c ((nI_eq (by omega) (by omega)).mp w)), if_neg (fun w => c ((nI_eq (by omega) (by omega)).mp w))]
    exact ⟨_, S', T, σ, rfl, rfl, f3, MT, f4⟩
end TE2
