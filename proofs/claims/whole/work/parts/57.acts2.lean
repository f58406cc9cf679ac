/-! The other acts: shift, weigh, undo; feed. -/
section ACT2
variable {S1 S2 : RSt} {σ : AS}
theorem c_weigh {S : RSt} {j : Nat} {β : BK} (B : cB S j β) {g x : Nat} (hg : 0 < g) (hg2 : g < bk_n β) (hx : x ≤ 3) : cB (st_sa S (2 * j) g (nI x)) j (bk_weigh β g x) := by
  have h2 := B.1.2.1
  refine ⟨bk_weigh_ok B.1 hg hg2 hx, B.2.1, B.2.2.1, B.2.2.2.1, fun k hk => ?_, fun k hk => ?_⟩
  · rw [st_a_eq]
    show _ = nI (va_up (bk_w β) g x k)
    unfold va_up upd
    by_cases e : k = g
    · rw [if_pos e, if_pos e]
    · rw [if_neg e, if_neg e]
      exact B.2.2.2.2.1 k hk
  · rw [st_a_ne (by omega)]
    exact B.2.2.2.2.2 k hk
theorem J_weigh (I : cI S1 σ) (M : mI S2 σ) (x y : Int32) : jn S1 σ (fX4_weigh x y S1) (fX5_weigh x y S2) := by
  have M0 := mI_t M 0
  have h2 := I.1.1.1.2.1
  have hw := I.1.1.1.2.2.2.1
  have en : st_a (st_si S2 0 0) 1 0 = nI (bk_n (as_b σ)) := M0.1.2.1
  have no : (fX4_weigh x y S1 = some (-1, S1) ∧ fX5_weigh x y S2 = some (-1, st_si S2 0 0)) → jn S1 σ (fX4_weigh x y S1) (fX5_weigh x y S2) := fun z => ⟨-1, S1, st_si S2 0 0, σ, z.1, z.2, I, M0, fok_rf⟩
  have g0 : (ixb x (bk_n (as_b σ)) ∨ x = nI 0) → jn S1 σ (fX4_weigh x y S1) (fX5_weigh x y S2) := fun hx => by
    refine no ⟨?_, ?_⟩
    · unfold fX4_weigh
      rw [ob_2t (c_hasGap0 I.1.1 hx), if_pos rfl]
    · unfold fX5_weigh
      rw [ob_in_t (in0 (by decide)), cl0, en]
      have e : fX5_isIn x 1 (nI (bk_n (as_b σ)) - 1) (st_si S2 0 0) = some (0, st_si S2 0 0) := by
        unfold fX5_isIn
        by_cases c : x < 1
        · rw [if_pos c]
        · rw [if_neg c, if_pos]
          rcases hx with (hx | ⟨_, hx⟩) | hx
          · exfalso
            apply c
            rw [Int32.lt_iff_toInt_lt, show (0 : Int32).toInt = 0 by decide] at hx
            rw [Int32.lt_iff_toInt_lt, i32_1]
            omega
          · rw [Int32.le_iff_toInt_le, nI_t (by omega)] at hx
            rw [Int32.lt_iff_toInt_lt, nIm (by omega)]
            omega
          · exact absurd (by rw [hx]; decide) c
      rw [ob_2t e, if_pos rfl]
  rcases ix_or x (n := bk_n (as_b σ)) (by omega) with hx | ⟨g, hg, rfl⟩
  · exact g0 (Or.inl hx)
  · by_cases hg0 : g = 0
    · exact g0 (Or.inr (by rw [hg0]))
    · have e : fX5_isIn (nI g) 1 (nI (bk_n (as_b σ)) - 1) (st_si S2 0 0) = some (1, st_si S2 0 0) := by
        unfold fX5_isIn
        rw [if_neg (show ¬ nI g < (1 : Int32) from nI_nlt (b := 1) (by omega) (by omega)), if_neg]
        rw [Int32.lt_iff_toInt_lt, nIm (by omega), nI_t (by omega)]
        omega
      rcases ix_or y (n := 4) (by decide) with hy | ⟨v, hv, rfl⟩
      · refine no ⟨?_, ?_⟩
        · unfold fX4_weigh
          rw [ob_2t (c_hasGap1 I.1.1 (by omega) hg), if_neg ne0]
          rcases hy with hy | ⟨hy, hy2⟩
          · rw [if_pos hy]
          · rw [if_neg hy, if_neg]
            rw [Int32.le_iff_toInt_le, nI_t (by decide)] at hy2
            rw [Int32.le_iff_toInt_le, show (3 : Int32).toInt = 3 by decide]
            omega
        · unfold fX5_weigh
          rw [ob_in_t (in0 (by decide)), cl0, en, ob_2t e, if_neg ne0, show (3 : Int32) = nI 4 - 1 by decide, ob_2t (m_isIn0 (by decide) hy), if_pos rfl]
      · obtain ⟨S1', e1, I1, z1⟩ := c_beginAct I
        obtain ⟨S2', e3, H3, F3⟩ := m_snap M0.1 M0.2.1
        have B2 := c_weigh I1.1.1 (g := g) (x := v) (by omega) hg (by omega)
        have B3 := mB_fr M0.1 F3 (by decide)
        have B4 := m_weigh B3 (g := g) (x := v) (by omega) hg (by omega)
        have F2 : fB 0 S1' (st_sa S1' (2 * 0) g (nI v)) := fr_sa (Or.inl rfl)
        have eo : st_a S2' 1 (2 + g) = nI (bk_w (as_b σ) g) := by
          have := B3.2.2.2.1 g (by omega)
          rw [show 0 + 2 + g = 2 + g by omega] at this
          exact this
        refine ⟨nI (bk_w (as_b σ) g), st_sa S1' (2 * 0) g (nI v), st_sa S2' 1 (2 + g) (nI v), (bk_weigh (as_b σ) g v, hs_push (as_c σ) (as_h σ) (as_b σ), σ.2.2), ?_, ?_, cI_book I1 B2 I.1.2 F2, mI_book (β' := as_b σ) H3 (mT_fr M0.2.2 F3 (by decide) (by decide) (by decide)) B4 (fr_sa rfl), Or.inl z1⟩
        · unfold fX4_weigh
          rw [ob_2t (c_hasGap1 I.1.1 (by omega) hg), if_neg ne0, if_neg (nI_pos (by omega)), if_pos (show nI v ≤ (3 : Int32) from nI_le (b := 3) (by omega) (by decide)), ob_1t e1, ob_in_t (vp_in_nI (by omega) (by decide)), ob_in_t (vp_in_nI (by omega) (by decide)), nI_clamp (by omega), I1.1.1.2.2.2.2.1 g (by omega)]
          rfl
        · unfold fX5_weigh
          rw [ob_in_t (in0 (by decide)), cl0, en, ob_2t e, if_neg ne0, show (3 : Int32) = nI 4 - 1 by decide, ob_2t (m_isIn1 (by decide) hv), if_neg ne0, ob_1t e3, show (2 : Int32) + nI g = nI (2 + g) from nI_add 2 g, ob_in_t (vp_in_nI (by omega) (by decide)), ob_in_t (vp_in_nI (by omega) (by decide)), nI_clamp (by omega), eo]
theorem J_undo (I : cI S1 σ) (M : mI S2 σ) : jn S1 σ (fX4_undo S1) (fX5_undo S2) := by
  have M0 := mI_t M 0
  by_cases q : as_c σ = 0
  · have h0 := I.2.1
    rw [q] at h0
    refine ⟨-1, S1, st_si S2 0 0, σ, ?_, ?_, I, M0, fok_rf⟩
    · unfold fX4_undo
      rw [ob_2t (c_giveBack0 h0), if_pos rfl]
    · unfold fX5_undo
      rw [M0.2.1.2.1, q, if_pos (show nI 0 = 0 from rfl)]
  · obtain ⟨c, hc⟩ : ∃ c, as_c σ = c + 1 := ⟨as_c σ - 1, by omega⟩
    have h0 := I.2.1
    rw [hc] at h0
    have hbc := (h0.2.2.choose_spec.2.2 0 (by omega)).2
    obtain ⟨S1', e1, B1, H1, F1⟩ := c_giveBack1 h0
    have hc10 := h0.1
    have f0 : fr (fun k => k = 9) no no no (st_si S2 0 0) (st_si (st_si S2 0 0) 9 (nI c)) := fr_si rfl
    obtain ⟨S2', e2, r2, F2⟩ := m_undoL (S := st_si (st_si S2 0 0) 9 (nI c)) (c := c) (by omega) st_i_eq
    have hm := M0.2.1
    rw [hc] at hm
    have B2 : mB S2' 1 0 (as_h σ 0) := mB_row (b' := 0) (hm.2.2 0 (by omega)) (fun k hk => by
      rw [Nat.zero_add, r2 k hk, st_a_si, show c + 1 - 1 - 0 = c by omega])
    have f3 : fr (fun k => k = 54) no no no S1' (st_si S1' 54 0) := fr_si rfl
    refine ⟨nI c, st_si S1' 54 0, S2', (as_h σ 0, (c, fun i => as_h σ (i + 1)), σ.2.2), ?_, ?_, ⟨⟨cB_fr B1 f3 (by omega) (by omega) (by omega) (fun z => z) (fun z => z), hbc⟩, hR_fr H1 f3 (by omega) (by omega) (by omega) (fun _ _ _ z => z), tR_fr (σ := (as_h σ 0, (c, fun i => as_h σ (i + 1)), σ.2.2)) (tR_fr (σ := (as_h σ 0, (c, fun i => as_h σ (i + 1)), σ.2.2)) I.2.2 F1 (by omega) (by omega) (by omega)) f3 (by omega) (by omega) (fun z => z)⟩, ⟨B2, ⟨by show c ≤ 10; omega, by rw [F2.1 9 (fun z => z), st_i_eq]; rfl, fun i hi => ?_⟩, mT_fr (σ := (as_h σ 0, (c, fun i => as_h σ (i + 1)), σ.2.2)) (mT_fr (σ := (as_h σ 0, (c, fun i => as_h σ (i + 1)), σ.2.2)) M0.2.2 f0 (by decide) (by decide) (fun z => z)) F2 (fun z => z) (fun z => z) (by decide)⟩, Or.inl st_i_eq⟩
    · unfold fX4_undo
      rw [ob_2t e1, if_neg ne0, st_i_ne (by decide), H1.2.1]
    · unfold fX5_undo
      have e9 : st_i (st_si S2 0 0) 9 = nI (c + 1) := hm.2.1
      rw [e9, if_neg (nI_ne0 (by omega) (by omega)), nI_pred, ob_1t e2, F2.1 9 (fun z => z), st_i_eq]
    · have hi : i < c := hi
      have := hm.2.2 (i + 1) (by omega)
      rw [show c + 1 - 1 - (i + 1) = c - 1 - i by omega] at this
      exact mB_fr (mB_fr this f0 (fun z => z)) F2 (by decide)
/-- the reference's shift: can all levels be moved, and moving them -/
theorem m_canShift {S : RSt} {β : BK} (B : mB S 1 0 β) {a : Nat} (ha : a < bk_h β) {x : Int32} (h1 : -999 ≤ x.toInt) (h2 : x.toInt ≤ 999) : (mvOK β a x.toInt ∧ fX5_shift_L30 1000 (nI a) x 0 S = some (.inr S)) ∨ (¬ mvOK β a x.toInt ∧ fX5_shift_L30 1000 (nI a) x 0 S = some (.inl S)) := by
  have hh := B.1.2.2.1
  have hv := B.1.2.2.2.2.2.1
  obtain ⟨Z, e, h⟩ := lp_up (fun n i s => fX5_shift_L30 n (nI a) x (nI i) s) (fun i s => s = S ∧ ∀ b, b < i → bk_v β (8 * a + b) ≠ 0 → 0 ≤ (bk_v β (8 * a + b) : Int) - 1 + x.toInt ∧ (bk_v β (8 * a + b) : Int) - 1 + x.toInt ≤ 999) 8 (fun r => (mvOK β a x.toInt ∧ r = .inr S) ∨ (¬ mvOK β a x.toInt ∧ r = .inl S))
    (fun n s h => ⟨.inr s, by
      show fX5_shift_L30 (n + 1) (nI a) x (nI 8) s = _
      rw [fX5_shift_L30, if_pos (show (8 : Int32) ≤ nI 8 from nI_le (a := 8) (Nat.le_refl _) (by decide))], Or.inl ⟨h.2, by rw [h.1]⟩⟩)
    (fun n i s hi h => by
      show (∃ r, fX5_shift_L30 (n + 1) (nI a) x (nI i) s = some r ∧ _) ∨ ∃ s', _ ∧ fX5_shift_L30 (n + 1) (nI a) x (nI i) s = fX5_shift_L30 n (nI a) x (nI (i + 1)) s'
      obtain ⟨rfl, h⟩ := h
      rw [fX5_shift_L30, if_neg (show ¬ (8 : Int32) ≤ nI i from nI_ge (b := 8) hi (by decide)), nI_1]
      by_cases q : bk_v β (8 * a + i) = 0
      · refine Or.inr ⟨s, ⟨rfl, fun b hb hq => ?_⟩, by rw [ob_2t (m_isSold0 B (by omega) hi q), if_pos rfl]⟩
        by_cases e : b = i
        · subst e
          exact absurd q hq
        · exact h b (by omega) hq
      · rw [ob_2t (m_isSold1 B (by omega) hi q), if_neg ne0, ob_2t (m_levelOf B (by omega) hi)]
        have t := lv_x (hv (8 * a + i)) h1 h2
        have i0 : (0 : Int32).toInt = 0 := by decide
        have i9 : (999 : Int32).toInt = 999 := by decide
        by_cases c : 0 ≤ (bk_v β (8 * a + i) : Int) - 1 + x.toInt ∧ (bk_v β (8 * a + i) : Int) - 1 + x.toInt ≤ 999
        · have e : fX5_isIn (nI (bk_v β (8 * a + i)) - 1 + x) 0 999 s = some (1, s) := by
            unfold fX5_isIn
            rw [if_neg (by rw [Int32.lt_iff_toInt_lt, t, i0]; omega), if_neg (by rw [Int32.lt_iff_toInt_lt, t, i9]; omega)]
          refine Or.inr ⟨s, ⟨rfl, fun b hb hq => ?_⟩, by rw [ob_2t e, if_neg ne0]⟩
          by_cases e : b = i
          · subst e
            exact c
          · exact h b (by omega) hq
        · have e : fX5_isIn (nI (bk_v β (8 * a + i)) - 1 + x) 0 999 s = some (0, s) := by
            unfold fX5_isIn
            by_cases c1 : nI (bk_v β (8 * a + i)) - 1 + x < 0
            · rw [if_pos c1]
            · rw [if_neg c1, if_pos]
              rw [Int32.lt_iff_toInt_lt, t, i0] at c1
              rw [Int32.lt_iff_toInt_lt, t, i9]
              omega
          exact Or.inl ⟨.inl s, by rw [ob_2t e, if_pos rfl], Or.inr ⟨fun z => c (z i hi q), rfl⟩⟩)
    8 0 1000 S (by omega) (by omega) ⟨rfl, fun b hb => absurd hb (Nat.not_lt_zero b)⟩
  have e : fX5_shift_L30 1000 (nI a) x (0 : Int32) S = some Z := e
  rcases h with ⟨h, rfl⟩ | ⟨h, rfl⟩
  · exact Or.inl ⟨h, e⟩
  · exact Or.inr ⟨h, e⟩
theorem bk_mv8 {β : BK} (h : bk_ok β) {a : Nat} {d : Int} : bk_mv β a d 8 = bk_mv β a d (bk_n β) := by
  unfold bk_mv
  have : (fun k => if (8 * a ≤ k ∧ k < 8 * a + 8) ∧ bk_v β k ≠ 0 then ((bk_v β k : Int) + d).toNat else bk_v β k) = (fun k => if (8 * a ≤ k ∧ k < 8 * a + bk_n β) ∧ bk_v β k ≠ 0 then ((bk_v β k : Int) + d).toNat else bk_v β k) := by
    funext k
    have hn := h.2.1
    by_cases c : (8 * a ≤ k ∧ k < 8 * a + bk_n β) ∧ bk_v β k ≠ 0
    · rw [if_pos c, if_pos ⟨by omega, c.2⟩]
    · rw [if_neg c, if_neg (fun z => c ⟨⟨z.1.1, ?_⟩, z.2⟩)]
      have hb := (h.2.2.2.2.2.2 a (k - 8 * a) (by omega) (by rw [show 8 * a + (k - 8 * a) = k by omega]; exact z.2)).2
      omega
  rw [this]
theorem m_shiftL {S : RSt} {β : BK} (B : mB S 1 0 β) {a : Nat} (ha : a < bk_h β) {x : Int32} (h1 : -999 ≤ x.toInt) (h2 : x.toInt ≤ 999) (hm : mvOK β a x.toInt) : ∃ S', fX5_shift_L77 1000 (nI a) x 0 S = some S' ∧ mB S' 1 0 (bk_mv β a x.toInt (bk_n β)) ∧ fr no no (fun a => a = 1) no S S' := by
  have hh := B.1.2.2.1
  have hv := B.1.2.2.2.2.2.1
  obtain ⟨S', e, h⟩ := lp_up (fun n i s => fX5_shift_L77 n (nI a) x (nI i) s) (fun i s => mB s 1 0 (bk_mv β a x.toInt i) ∧ fr no no (fun a => a = 1) no S s) 8 (fun r => mB r 1 0 (bk_mv β a x.toInt 8) ∧ fr no no (fun a => a = 1) no S r)
    (fun n s h => ⟨s, by
      show fX5_shift_L77 (n + 1) (nI a) x (nI 8) s = _
      rw [fX5_shift_L77, if_pos (show (8 : Int32) ≤ nI 8 from nI_le (a := 8) (Nat.le_refl _) (by decide))], h⟩)
    (fun n i s hi h => Or.inr (by
      obtain ⟨hB, hF⟩ := h
      show ∃ s', _ ∧ fX5_shift_L77 (n + 1) (nI a) x (nI i) s = fX5_shift_L77 n (nI a) x (nI (i + 1)) s'
      have ev := bk_mv_v (β := β) (a := a) (m := i) (b := i) (d := x.toInt) (Nat.le_refl i)
      rw [fX5_shift_L77, if_neg (show ¬ (8 : Int32) ≤ nI i from nI_ge (b := 8) hi (by decide)), nI_1]
      by_cases q : bk_v β (8 * a + i) = 0
      · refine ⟨s, ⟨?_, hF⟩, by rw [ob_2t (m_isSold0 hB (by omega) hi (by rw [ev]; exact q)), if_pos rfl]⟩
        rw [← bk_mv_e q]
        exact hB
      · have ok := hm i hi q
        have hvi := hv (8 * a + i)
        have t := lv_x hvi h1 h2
        have hin := (B.1.2.2.2.2.2.2 a i hi q).2
        have hy : nI (bk_v β (8 * a + i)) + x = nI ((bk_v β (8 * a + i) : Int) + x.toInt).toNat := by
          apply Int32.toInt_inj.mp
          rw [i32_add (by rw [nI_t (by omega)]; omega) (by rw [nI_t (by omega)]; omega), nI_t (by omega), nI_t (by omega)]
          omega
        refine ⟨st_sa s 1 (10 + (8 * a + i)) (nI ((bk_v β (8 * a + i) : Int) + x.toInt).toNat), ⟨?_, fr_tr hF (fr_sa rfl)⟩, by rw [ob_2t (m_isSold1 hB (by omega) hi (by rw [ev]; exact q)), if_neg ne0, ob_2t m_at, ob_in_t (vp_in_nI (by omega) (by decide)), ob_in_t (vp_in_nI (by omega) (by decide)), nI_clamp (by omega), m_v hB (by omega), ev, hy]⟩
        rw [← bk_mv_s q]
        exact m_write hB ha hin (by omega)))
    8 0 1000 S (by omega) (by omega) ⟨by rw [bk_mv0]; exact B, fr_rf⟩
  refine ⟨S', e, ?_, h.2⟩
  rw [← bk_mv8 B.1]
  exact h.1
theorem bk_mv_nz {β : BK} {a m k : Nat} {d : Int} (hm : mvOK β a d) (h8 : m ≤ 8) : (bk_v (bk_mv β a d m) k = 0) ↔ bk_v β k = 0 := by
  show ((if (8 * a ≤ k ∧ k < 8 * a + m) ∧ bk_v β k ≠ 0 then ((bk_v β k : Int) + d).toNat else bk_v β k) = 0) ↔ _
  by_cases c : (8 * a ≤ k ∧ k < 8 * a + m) ∧ bk_v β k ≠ 0
  · rw [if_pos c]
    have := hm (k - 8 * a) (by omega) (by rw [show 8 * a + (k - 8 * a) = k by omega]; exact c.2)
    rw [show 8 * a + (k - 8 * a) = k by omega] at this
    constructor
    · intro z
      omega
    · intro z
      exact absurd z c.2
  · rw [if_neg c]
theorem ct_nz {v u : Nat → Nat} : ∀ {k : Nat}, (∀ i, i < k → (v i = 0 ↔ u i = 0)) → ct v k = ct u k
  | 0, _ => rfl
  | k + 1, h => by
    rw [ct, ct, ct_nz (fun i hi => h i (by omega))]
    by_cases q : v k = 0
    · rw [if_pos q, if_pos ((h k (by omega)).mp q)]
    · rw [if_neg q, if_neg (fun z => q ((h k (by omega)).mpr z))]
theorem J_shift (I : cI S1 σ) (M : mI S2 σ) (x y : Int32) : jn S1 σ (fX4_shift x y S1) (fX5_shift x y S2) := by
  have M0 := mI_t M 0
  have h1 := I.1.1.1.2.2.1
  have h2 := I.1.1.1.2.1
  have n9 : (-999 : Int32).toInt = -999 := by decide
  have p9 : (999 : Int32).toInt = 999 := by decide
  have no : (fX4_shift x y S1 = some (-1, S1) ∧ fX5_shift x y S2 = some (-1, st_si S2 0 0)) → jn S1 σ (fX4_shift x y S1) (fX5_shift x y S2) := fun z => ⟨-1, S1, st_si S2 0 0, σ, z.1, z.2, I, M0, fok_rf⟩
  rcases ix_or x (n := bk_h (as_b σ)) (by omega) with hx | ⟨a, ha, rfl⟩
  · refine no ⟨?_, ?_⟩
    · unfold fX4_shift
      rw [ob_2t (c_hasHome0 I.1.1 hx), if_pos rfl]
    · unfold fX5_shift
      rw [ob_2t (m_isHome0 M0.1 hx), if_pos rfl]
  · by_cases l1 : y < -999
    · refine no ⟨?_, ?_⟩
      · unfold fX4_shift
        rw [ob_2t (c_hasHome1 I.1.1 ha), if_neg ne0, if_pos l1]
      · unfold fX5_shift
        rw [ob_2t (m_isHome1 M0.1 ha), if_neg ne0, ob_2t (show fX5_isIn y (-999) 999 (st_si S2 0 0) = some (0, st_si S2 0 0) by unfold fX5_isIn; rw [if_pos l1]), if_pos rfl]
    · by_cases l2 : 999 < y
      · refine no ⟨?_, ?_⟩
        · unfold fX4_shift
          rw [ob_2t (c_hasHome1 I.1.1 ha), if_neg ne0, if_neg l1, if_pos l2]
        · unfold fX5_shift
          rw [ob_2t (m_isHome1 M0.1 ha), if_neg ne0, ob_2t (show fX5_isIn y (-999) 999 (st_si S2 0 0) = some (0, st_si S2 0 0) by unfold fX5_isIn; rw [if_neg l1, if_pos l2]), if_pos rfl]
      · have e : fX5_isIn y (-999) 999 (st_si S2 0 0) = some (1, st_si S2 0 0) := by
          unfold fX5_isIn
          rw [if_neg l1, if_neg l2]
        have b1 : -999 ≤ y.toInt := by
          rw [Int32.lt_iff_toInt_lt, n9] at l1
          omega
        have b2 : y.toInt ≤ 999 := by
          rw [Int32.lt_iff_toInt_lt, p9] at l2
          omega
        rcases c_canMove I.1.1 ha b1 b2 with ⟨hm, ec⟩ | ⟨hm, ec⟩
        · obtain ⟨S1', e1, I1, z1⟩ := c_beginAct I
          obtain ⟨S1'', e2, B2, F2⟩ := c_moveLevels I1.1.1 ha b1 b2 hm
          rcases m_canShift M0.1 ha b1 b2 with ⟨-, em⟩ | ⟨hn, -⟩
          · obtain ⟨S2', e3, H3, F3⟩ := m_snap M0.1 M0.2.1
            have B3 := mB_fr M0.1 F3 (by decide)
            obtain ⟨S2'', e4, B4, F4⟩ := m_shiftL B3 ha b1 b2 hm
            have cc : bk_c (bk_mv (as_b σ) a y.toInt (bk_n (as_b σ))) = bk_c (as_b σ) := ct_nz (fun i _ => bk_mv_nz hm h2)
            have ss : bk_s (bk_mv (as_b σ) a y.toInt (bk_n (as_b σ))) a 8 = bk_s (as_b σ) a (bk_n (as_b σ)) := by
              rw [← bk_s8 I.1.1.1]
              exact ct_nz (fun i _ => bk_mv_nz hm h2)
            refine ⟨nI (bk_s (as_b σ) a (bk_n (as_b σ))), S1'', S2'', (bk_mv (as_b σ) a y.toInt (bk_n (as_b σ)), hs_push (as_c σ) (as_h σ) (as_b σ), σ.2.2), ?_, ?_, cI_book I1 B2 (by show bk_c (bk_mv (as_b σ) a y.toInt (bk_n (as_b σ))) ≤ 18; rw [cc]; exact I.1.2) F2, mI_book (β' := as_b σ) H3 (mT_fr M0.2.2 F3 (by decide) (by decide) (by decide)) B4 F4, Or.inl ?_⟩
            · unfold fX4_shift
              rw [ob_2t (c_hasHome1 I.1.1 ha), if_neg ne0, if_neg l1, if_neg l2, ob_2t ec, if_neg ne0, ob_1t e1, ob_2t e2]
              rfl
            · unfold fX5_shift
              rw [ob_2t (m_isHome1 M0.1 ha), if_neg ne0, ob_2t e, if_neg ne0, ob_1t em]
              show ob_1 (fX5_snap (st_si S2 0 0)) _ = _
              rw [ob_1t e3, ob_1t e4, ob_2t (m_salesOf B4 (by omega)), ss]
            · rw [F2.1 54 (by omega)]
              exact z1
          · exact absurd hm hn
        · refine no ⟨?_, ?_⟩
          · unfold fX4_shift
            rw [ob_2t (c_hasHome1 I.1.1 ha), if_neg ne0, if_neg l1, if_neg l2, ob_2t ec, if_pos rfl]
          · rcases m_canShift M0.1 ha b1 b2 with ⟨hn, -⟩ | ⟨-, em⟩
            · exact absurd hn hm
            · unfold fX5_shift
              rw [ob_2t (m_isHome1 M0.1 ha), if_neg ne0, ob_2t e, if_neg ne0, ob_1t em]
              rfl
end ACT2
