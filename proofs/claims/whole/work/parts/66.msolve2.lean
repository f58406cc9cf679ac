/-- the reference has solved a book -/
def MO (S : RSt) (β : BK) : Prop := mP S β (pk β) (pF β) ∧ (∀ m, m < bk_n β → st_a S 9 m = nI (pt β m)) ∧ mN S β ∧ st_j S 1 = iL (bt β) ∧ mU S β (dG β) ∧ ∀ m, m < 8 → st_g S 2 m = iL (tp β m)
def gS : RSt → RSt → Prop := fr (fun k => k = 13 ∨ k = 14) (fun k => k = 1) (fun a => 4 ≤ a ∧ a < 11) (fun a => a < 3)
section MS2
variable {S : RSt} {β : BK}
theorem m_zero98 : ∃ S', fX5_solves_L67 1000 0 S = some S' ∧ (∀ k, k < 98 → st_g S' 0 k = iL 0) ∧ fr no no no (fun a => a = 0) S S' := by
  obtain ⟨s, e, h1, h2⟩ := lp_up (fun f i s => fX5_solves_L67 f (nI i) s) (fun i s => (∀ k, k < i → st_g s 0 k = iL 0) ∧ fr no no no (fun a => a = 0) S s) 98 (fun s => (∀ k, k < 98 → st_g s 0 k = iL 0) ∧ fr no no no (fun a => a = 0) S s)
    (fun f s hs => ⟨s, by
      show fX5_solves_L67 (f + 1) (nI 98) s = some s
      rw [fX5_solves_L67, if_pos (show (98 : Int32) ≤ nI 98 by decide)], hs⟩)
    (fun f i s hi hs => Or.inr (by
      show ∃ s', _ ∧ fX5_solves_L67 (f + 1) (nI i) s = fX5_solves_L67 f (nI (i + 1)) s'
      rw [fX5_solves_L67, if_neg (show ¬ (98 : Int32) ≤ nI i from nI_ge (b := 98) hi (by decide)), ob_in_t (vp_in_nI hi (by decide)), nI_clamp (by omega), nI_1]
      refine ⟨_, ⟨fun k hk => ?_, fr_tr hs.2 (fr_sg rfl)⟩, rfl⟩
      by_cases c : k = i
      · rw [sg_p rfl c]
        rfl
      · rw [sg_n (Or.inr c), hs.1 k (by omega)]))
    98 0 1000 S (by omega) (by omega) ⟨fun k hk => absurd hk (Nat.not_lt_zero k), fr_rf⟩
  exact ⟨s, e, h1, h2⟩
theorem m_zero8 : ∃ S', fX5_solves_L88 1000 0 S = some S' ∧ (∀ k, k < 8 → st_g S' 1 k = iL 0) ∧ fr no no no (fun a => a = 1) S S' := by
  obtain ⟨s, e, h1, h2⟩ := lp_up (fun f i s => fX5_solves_L88 f (nI i) s) (fun i s => (∀ k, k < i → st_g s 1 k = iL 0) ∧ fr no no no (fun a => a = 1) S s) 8 (fun s => (∀ k, k < 8 → st_g s 1 k = iL 0) ∧ fr no no no (fun a => a = 1) S s)
    (fun f s hs => ⟨s, by
      show fX5_solves_L88 (f + 1) (nI 8) s = some s
      rw [fX5_solves_L88, if_pos (show (8 : Int32) ≤ nI 8 by decide)], hs⟩)
    (fun f i s hi hs => Or.inr (by
      show ∃ s', _ ∧ fX5_solves_L88 (f + 1) (nI i) s = fX5_solves_L88 f (nI (i + 1)) s'
      rw [fX5_solves_L88, if_neg (show ¬ (8 : Int32) ≤ nI i from nI_ge (b := 8) hi (by decide)), ob_in_t (vp_in_nI hi (by decide)), nI_clamp (by omega), nI_1]
      refine ⟨_, ⟨fun k hk => ?_, fr_tr hs.2 (fr_sg rfl)⟩, rfl⟩
      by_cases c : k = i
      · rw [sg_p rfl c]
        rfl
      · rw [sg_n (Or.inr c), hs.1 k (by omega)]))
    8 0 1000 S (by omega) (by omega) ⟨fun k hk => absurd hk (Nat.not_lt_zero k), fr_rf⟩
  exact ⟨s, e, h1, h2⟩
theorem m_units (hb : bk_ok β) (e14 : st_i S 14 = nI (um β)) (hz : ∀ k, k < 98 → st_g S 0 k = iL 0) : ∃ S', fX5_solves_L109 1000 0 S = some S' ∧ mM S' β (mAk β 0) ∧ fr no no no (fun a => a = 0) S S' := by
  have um7 := um_le hb
  obtain ⟨s, e, h1, h2⟩ := lp_up (fun f i s => fX5_solves_L109 f (nI i) s) (fun i s => mM s β (fun a b => if a < i ∧ b = 7 + a then 1 else 0) ∧ fr no no no (fun a => a = 0) S s) (um β) (fun s => mM s β (mAk β 0) ∧ fr no no no (fun a => a = 0) S s)
    (fun f s hs => ⟨s, by
      show fX5_solves_L109 (f + 1) (nI (um β)) s = some s
      rw [fX5_solves_L109, hs.2.1 _ (fun z => z), e14, if_pos (nI_le (Nat.le_refl _) (by omega))], mM_cg hs.1 (fun a b ha _ => by
      have e0 : dAk β 0 a b = 0 := rfl
      show (if b = 7 + a then 1 else 0) + (if b < um β then dAk β 0 a b else 0) = if a < um β ∧ b = 7 + a then 1 else 0
      rw [e0, show (if b < um β then (0 : Int) else 0) = 0 by split <;> rfl]
      by_cases c : b = 7 + a
      · rw [if_pos c, if_pos ⟨ha, c⟩]
        rfl
      · rw [if_neg c, if_neg (fun z => c z.2)]
        rfl), hs.2⟩)
    (fun f i s hi hs => Or.inr (by
      obtain ⟨g1, g2⟩ := hs
      show ∃ s', _ ∧ fX5_solves_L109 (f + 1) (nI i) s = fX5_solves_L109 f (nI (i + 1)) s'
      have ei : ((14 : Int32) * nI i + (7 : Int32)) + nI i = nI (14 * i + (7 + i)) := by
        rw [show (7 : Int32) = nI 7 from rfl, ix14, nI_add, show 14 * i + 7 + i = 14 * i + (7 + i) by omega]
      rw [fX5_solves_L109, g2.1 _ (fun z => z), e14, if_neg (nI_ge (b := um β) hi (by omega)), ei, ob_in_t (vp_in_nI (show 14 * i + (7 + i) < 98 by omega) (by decide)), nI_clamp (by omega), nI_1]
      refine ⟨_, ⟨fun a b ha hb2 => ?_, fr_tr g2 (fr_sg rfl)⟩, rfl⟩
      show _ = iL (if a < i + 1 ∧ b = 7 + a then 1 else 0)
      by_cases c : a = i ∧ b = 7 + i
      · rw [sg_p rfl (by rw [c.1, c.2]), if_pos (by omega)]
        rfl
      · rw [sg_n (Or.inr (by omega)), g1 a b ha hb2]
        show iL (if a < i ∧ b = 7 + a then 1 else 0) = _
        by_cases d : a < i ∧ b = 7 + a
        · rw [if_pos d, if_pos (by omega)]
        · rw [if_neg d, if_neg (by omega)]))
    (um β) 0 1000 S (by omega) (by omega) ⟨fun a b ha hb2 => by
      rw [hz _ (by omega)]
      show _ = iL (if a < 0 ∧ b = 7 + a then 1 else 0)
      rw [if_neg (by omega)], fr_rf⟩
  exact ⟨s, e, h1, h2⟩
theorem me_0 (hb : bk_ok β) {a b : Nat} (ha : a < um β) : me β 0 a b = mAk β (pk β) a b := by
  have um7 := um_le hb
  have e1 : ∀ i z, (dJ β 0).1 i z = gj_V (um β) (dA β) z i := fun _ _ => rfl
  unfold me mAk
  by_cases c : b < 7
  · rw [if_pos c, if_neg (show ¬ b = 7 + a by omega), Int.zero_add, e1]
    unfold gj_V
    by_cases d : b < um β
    · rw [if_pos d, if_pos d, if_pos d]
      rfl
    · rw [if_neg d, if_neg d]
  · rw [if_neg c, if_neg (show ¬ b < um β by omega), Int.add_zero]
    by_cases d : b - 7 < um β
    · rw [if_pos d, e1]
      unfold gj_V un
      rw [if_neg (by omega), show um β + (b - 7) - um β = b - 7 by omega]
      by_cases e : b = 7 + a
      · rw [if_pos e, if_pos (by omega)]
      · rw [if_neg e, if_neg (by omega)]
    · rw [if_neg d, if_neg (by omega)]
theorem m_pairsL (hb : bk_ok β) (hk : pk β ≤ 18) (N : mN S β) (P : mP S β (pk β) (pF β)) (U : mM S β (mAk β 0)) (G : mU S β (dGk β 0)) : ∃ S', fX5_solves_L140 1000 0 S = some S' ∧ mM S' β (me β 0) ∧ mU S' β (dG β) ∧ fr no no no (fun a => a < 2) S S' := by
  obtain ⟨s, e, h1, h2, h3⟩ := lp_up (fun f i s => fX5_solves_L140 f (nI i) s) (fun i s => mM s β (mAk β i) ∧ mU s β (dGk β i) ∧ fr no no no (fun a => a < 2) S s) (pk β) (fun s => mM s β (me β 0) ∧ mU s β (dG β) ∧ fr no no no (fun a => a < 2) S s)
    (fun f s hs => ⟨s, by
      show fX5_solves_L140 (f + 1) (nI (pk β)) s = some s
      rw [fX5_solves_L140, hs.2.2.1 _ (fun z => z), P.1, if_pos (nI_le (Nat.le_refl _) (by omega))], mM_cg hs.1 (fun a b ha _ => me_0 hb ha), hs.2.1, hs.2.2⟩)
    (fun f i s hi hs => Or.inr (by
      obtain ⟨g1, g2, g3⟩ := hs
      show ∃ s', _ ∧ fX5_solves_L140 (f + 1) (nI i) s = fX5_solves_L140 f (nI (i + 1)) s'
      obtain ⟨S', k1, k2, k3, k4⟩ := m_pairStep hb hk (mN_fr N g3 (fun z => z) (fun z => z)) (mP_fr P g3 (fun z => z) (fun _ _ _ z => z)) hi g1 g2 f
      exact ⟨S', ⟨k2, k3, fr_tr g3 k4⟩, k1⟩))
    (pk β) 0 1000 S (by omega) (by omega) ⟨U, G, fr_rf⟩
  exact ⟨s, e, h1, h2, h3⟩
theorem tp_hi {x : Nat} (hx : bk_n β ≤ x) : tp β x = 0 := sm_zero (fun a ha => by
  rw [dl_n (fun z => by have := (uU_ok ha).1; omega)]
  omega)
theorem m_upper (hb : bk_ok β) (N : mN S β) (U : mM S β (me β (um β))) (G : mU S β (dG β)) {x : Nat} (hx : x < bk_n β) : ∃ S', fX5_solves_L321 1000 (nI x) (if pt β x = x then -1 else nI (ui β x)) 0 (st_sg S 2 x 0) = some S' ∧ st_g S' 2 x = iL (tp β x) ∧ (∀ y, y ≠ x → st_g S' 2 y = st_g S 2 y) ∧ fr no no no (fun a => a = 2) S S' := by
  have um7 := um_le hb
  have n8 := hb.2.1
  by_cases c : pt β x = x
  · rw [if_pos c]
    refine ⟨st_sg S 2 x 0, ?_, ?_, fun y hy => sg_n (Or.inr hy), fr_sg rfl⟩
    · rw [show (1000 : Nat) = 999 + 1 from rfl, fX5_solves_L321]
      split
      · rfl
      · rw [if_pos rfl]
    · rw [sg_p rfl rfl, tp_fi c]
      rfl
  · obtain ⟨l1, l2⟩ := ui_ok hx c
    rw [if_neg c]
    obtain ⟨s, e, h1, h2, h3⟩ := lp_up (fun f i s => fX5_solves_L321 f (nI x) (nI (ui β x)) (nI i) s) (fun i s => st_g s 2 x = iL (sm i (fun b => dX β (ui β x) b * dG β b)) ∧ (∀ y, y ≠ x → st_g s 2 y = st_g S 2 y) ∧ fr no no no (fun a => a = 2) S s) (um β) (fun s => st_g s 2 x = iL (tp β x) ∧ (∀ y, y ≠ x → st_g s 2 y = st_g S 2 y) ∧ fr no no no (fun a => a = 2) S s)
      (fun f s hs => ⟨s, by
        show fX5_solves_L321 (f + 1) (nI x) (nI (ui β x)) (nI (um β)) s = some s
        rw [fX5_solves_L321, hs.2.2.1 _ (fun z => z), N.1, if_pos (nI_le (Nat.le_refl _) (by omega))], by rw [tp_un hx c]; exact hs.1, hs.2⟩)
      (fun f i s hi hs => Or.inr (by
        obtain ⟨g1, g2, g3⟩ := hs
        show ∃ s', _ ∧ fX5_solves_L321 (f + 1) (nI x) (nI (ui β x)) (nI i) s = fX5_solves_L321 f (nI x) (nI (ui β x)) (nI (i + 1)) s'
        have ei : ((14 : Int32) * nI (ui β x) + (7 : Int32)) + nI i = nI (14 * ui β x + (7 + i)) := by
          rw [show (7 : Int32) = nI 7 from rfl, ix14, nI_add, show 14 * ui β x + 7 + i = 14 * ui β x + (7 + i) by omega]
        have x8 : vp_in (nI x) 8 := vp_in_nI (show x < 8 by omega) (by decide)
        have em : me β (um β) (ui β x) (7 + i) = dX β (ui β x) i := by
          unfold me dX
          rw [if_neg (by omega), if_pos (by omega), show 7 + i - 7 = i by omega]
        rw [fX5_solves_L321, g3.1 _ (fun z => z), N.1, if_neg (nI_ge (b := um β) hi (by omega)), if_neg (nI_nm (by omega)), ei, ob_in_t x8, ob_in_t (vp_in_nI (show 14 * ui β x + (7 + i) < 98 by omega) (by decide)), ob_in_t (vp_in_nI (show i < 8 by omega) (by decide)), ob_in_t x8, nI_clamp (by omega), nI_clamp (by omega), nI_clamp (by omega), g1, g3.2.2.2 0 (by decide), g3.2.2.2 1 (by decide), U _ _ l1 (by omega), G i hi, em, iL_mul, iL_add, nI_1]
        exact ⟨_, ⟨sg_p rfl rfl, fun y hy => by rw [sg_n (Or.inr hy), g2 y hy], fr_tr g3 (fr_sg rfl)⟩, rfl⟩))
      (um β) 0 1000 (st_sg S 2 x 0) (by omega) (by omega) ⟨sg_p rfl rfl, fun y hy => sg_n (Or.inr hy), fr_sg rfl⟩
    exact ⟨s, e, h1, h2, h3⟩
theorem m_uppers (hb : bk_ok β) (e0 : st_a S 1 0 = nI (bk_n β)) (N : mN S β) (U : mM S β (me β (um β))) (G : mU S β (dG β)) : ∃ S', fX5_solves_L285 1000 0 S = some S' ∧ (∀ m, m < 8 → st_g S' 2 m = iL (tp β m)) ∧ fr no no no (fun a => a = 2) S S' := by
  have um7 := um_le hb
  have n8 := hb.2.1
  obtain ⟨s, e, h1, h2⟩ := lp_up (fun f i s => fX5_solves_L285 f (nI i) s) (fun i s => (∀ m, m < i → st_g s 2 m = iL (tp β m)) ∧ fr no no no (fun a => a = 2) S s) 8 (fun s => (∀ m, m < 8 → st_g s 2 m = iL (tp β m)) ∧ fr no no no (fun a => a = 2) S s)
    (fun f s hs => ⟨s, by
      show fX5_solves_L285 (f + 1) (nI 8) s = some s
      rw [fX5_solves_L285, if_pos (show (8 : Int32) ≤ nI 8 by decide)], hs⟩)
    (fun f i s hi hs => Or.inr (by
      obtain ⟨g1, g2⟩ := hs
      show ∃ s', _ ∧ fX5_solves_L285 (f + 1) (nI i) s = fX5_solves_L285 f (nI (i + 1)) s'
      rw [fX5_solves_L285, if_neg (show ¬ (8 : Int32) ≤ nI i from nI_ge (b := 8) hi (by decide)), ob_in_t (in0 (by decide)), cl0, g2.2.2.1 1 (fun z => z), e0, nI_1]
      by_cases c : bk_n β ≤ i
      · rw [ob_jp (nI_le c (by omega))]
        show ∃ s', _ ∧ ob_in (nI i) 8 (ob_1 (fX5_solves_L321 1000 (nI i) (-1) 0 (st_sg s 2 (nI i).toNatClampNeg 0)) fun S_76 => fX5_solves_L285 f (nI (i + 1)) S_76) = fX5_solves_L285 f (nI (i + 1)) s'
        rw [ob_in_t (vp_in_nI hi (by decide)), nI_clamp (by omega)]
        have e5 : fX5_solves_L321 1000 (nI i) (-1) 0 (st_sg s 2 i 0) = some (st_sg s 2 i 0) := by
          rw [show (1000 : Nat) = 999 + 1 from rfl, fX5_solves_L321]
          split
          · rfl
          · rw [if_pos rfl]
        rw [ob_1t e5]
        refine ⟨_, ⟨fun m hm => ?_, fr_tr g2 (fr_sg rfl)⟩, rfl⟩
        by_cases d : m = i
        · rw [sg_p rfl d, d, tp_hi c]
          rfl
        · rw [sg_n (Or.inr d), g1 m (by omega)]
      · have Ns := mN_fr N g2 (fun z => z) (fun z => z)
        obtain ⟨S', k1, k2, k3, k4⟩ := m_upper hb Ns (fun a b ha hb2 => by rw [g2.2.2.2 0 (by decide)]; exact U a b ha hb2) (fun a ha => by rw [g2.2.2.2 1 (by decide)]; exact G a ha) (x := i) (by omega)
        rw [ob_jn (nI_ge (b := bk_n β) (by omega) (by omega)), ob_2t (m_unknownOf hb Ns (by omega))]
        show ∃ s', _ ∧ ob_in (nI i) 8 (ob_1 (fX5_solves_L321 1000 (nI i) (if pt β i = i then -1 else nI (ui β i)) 0 (st_sg s 2 (nI i).toNatClampNeg 0)) fun S_76 => fX5_solves_L285 f (nI (i + 1)) S_76) = fX5_solves_L285 f (nI (i + 1)) s'
        rw [ob_in_t (vp_in_nI hi (by decide)), nI_clamp (by omega), ob_1t k1]
        refine ⟨S', ⟨fun m hm => ?_, fr_tr g2 k4⟩, rfl⟩
        by_cases d : m = i
        · rw [d, k2]
        · rw [k3 m d, g1 m (by omega)]))
    8 0 1000 S (by omega) (by omega) ⟨fun m hm => absurd hm (Nat.not_lt_zero m), fr_rf⟩
  exact ⟨s, e, h1, h2⟩
theorem m_solvesR {β' : BK} (B : mB S 1 0 β) (hn : bk_n β' = bk_n β) (hb : bk_ok β') (hk : pk β' ≤ 18) {x : Int32} {S1 : RSt} (e1 : fX5_laysPairs x S = some S1) (P1 : mP S1 β' (pk β') (pF β')) (F1 : gP S S1) : ∃ S', fX5_solves x S = some S' ∧ MO S' β' ∧ gS S S' := by
  have n8 := hb.2.1
  have um7 := um_le hb
  have s1 : gS S S1 := fr_mo F1 (fun _ z => Or.inl z) (fun _ z => z.elim) (fun _ z => by omega) (fun _ z => z.elim)
  unfold fX5_solves
  rw [ob_1t e1]
  obtain ⟨S2, e2, T2, F2⟩ := m_laysParts (k := pk β') (F := pF β') (by omega) P1 (fun i hi => by
    have v := pF_v hi
    have v1 := v.2.1
    have v2 := v.2.2
    omega)
  have s2 : gS S1 S2 := fr_mo F2 (fun _ z => z.elim) (fun _ z => z.elim) (fun _ z => by omega) (fun _ z => z.elim)
  rw [ob_1t e2]
  have P2 := mP_fr P1 F2 (fun z => z) (fun _ _ _ => by omega)
  have e0 : st_a S2 1 0 = nI (bk_n β') := by
    rw [F2.2.2.1 1 (by decide), F1.2.2.1 1 (by omega), hn]
    exact B.2.1
  obtain ⟨S3, e3, N3, F3⟩ := m_unknowns hb e0 (fun m hm => T2 m (by omega))
  have s3 : gS S2 S3 := fr_mo F3 (fun _ z => Or.inr z) (fun _ z => z.elim) (fun _ z => by omega) (fun _ z => z.elim)
  rw [ob_1t e3]
  obtain ⟨S4, e4, Z4, F4⟩ := m_zero98 (S := S3)
  have s4 : gS S3 S4 := fr_mo F4 (fun _ z => z.elim) (fun _ z => z.elim) (fun _ z => z.elim) (fun _ z => by omega)
  rw [ob_1t e4]
  obtain ⟨S5, e5, Z5, F5⟩ := m_zero8 (S := S4)
  have s5 : gS S4 S5 := fr_mo F5 (fun _ z => z.elim) (fun _ z => z.elim) (fun _ z => z.elim) (fun _ z => by omega)
  rw [ob_1t e5]
  have N5 := mN_fr (mN_fr N3 F4 (fun z => z) (fun z => z)) F5 (fun z => z) (fun z => z)
  obtain ⟨S6, e6, U6, F6⟩ := m_units hb N5.1 (fun k hk => by rw [F5.2.2.2 0 (by decide)]; exact Z4 k hk)
  have s6 : gS S5 S6 := fr_mo F6 (fun _ z => z.elim) (fun _ z => z.elim) (fun _ z => z.elim) (fun _ z => by omega)
  rw [ob_1t e6]
  have N6 := mN_fr N5 F6 (fun z => z) (fun z => z)
  have P6 := mP_fr (mP_fr (mP_fr (mP_fr P2 F3 (by decide) (fun _ _ _ => by omega)) F4 (fun z => z) (fun _ _ _ z => z)) F5 (fun z => z) (fun _ _ _ z => z)) F6 (fun z => z) (fun _ _ _ z => z)
  obtain ⟨S7, e7, U7, G7, F7⟩ := m_pairsL hb hk N6 P6 U6 (fun a ha => by rw [F6.2.2.2 1 (by decide), Z5 a (by omega)]; rfl)
  have s7 : gS S6 S7 := fr_mo F7 (fun _ z => z.elim) (fun _ z => z.elim) (fun _ z => z.elim) (fun _ z => by omega)
  rw [ob_1t e7]
  have N7 := mN_fr N6 F7 (fun z => z) (fun z => z)
  obtain ⟨S8, e8, U8, J8, F8⟩ := m_inverts hb hk N7.1 U7
  have s8 : gS S7 S8 := fr_mo F8 (fun _ z => z.elim) (fun _ z => z) (fun _ z => z.elim) (fun _ z => by omega)
  rw [ob_1t e8]
  have N8 := mN_fr N7 F8 (fun z => z) (fun z => z)
  have G8 : mU S8 β' (dG β') := fun a ha => by rw [F8.2.2.2 1 (by decide)]; exact G7 a ha
  have e08 : st_a S8 1 0 = nI (bk_n β') := by
    rw [F8.2.2.1 1 (fun z => z), F7.2.2.1 1 (fun z => z), F6.2.2.1 1 (fun z => z), F5.2.2.1 1 (fun z => z), F4.2.2.1 1 (fun z => z), F3.2.2.1 1 (by decide)]
    exact e0
  obtain ⟨S9, e9, T9, F9⟩ := m_uppers hb e08 N8 U8 G8
  have s9 : gS S8 S9 := fr_mo F9 (fun _ z => z.elim) (fun _ z => z.elim) (fun _ z => z.elim) (fun _ z => by omega)
  rw [ob_1t e9]
  refine ⟨S9, rfl, ⟨mP_fr (mP_fr (mP_fr P6 F7 (fun z => z) (fun _ _ _ z => z)) F8 (fun z => z) (fun _ _ _ z => z)) F9 (fun z => z) (fun _ _ _ z => z), fun m hm => ?_, mN_fr N8 F9 (fun z => z) (fun z => z), by rw [F9.2.1 _ (fun z => z)]; exact J8, fun a ha => by rw [F9.2.2.2 1 (by decide)]; exact G8 a ha, T9⟩, fr_tr s1 (fr_tr s2 (fr_tr s3 (fr_tr s4 (fr_tr s5 (fr_tr s6 (fr_tr s7 (fr_tr s8 s9)))))))⟩
  rw [F9.2.2.1 9 (fun z => z), F8.2.2.1 9 (fun z => z), F7.2.2.1 9 (fun z => z), F6.2.2.1 9 (fun z => z), F5.2.2.1 9 (fun z => z), F4.2.2.1 9 (fun z => z), F3.2.2.1 9 (by decide)]
  exact T2 m (by omega)
theorem m_solves (B : mB S 1 0 β) (hc : bk_c β ≤ 19) : ∃ S', fX5_solves (-1) S = some S' ∧ MO S' β ∧ gS S S' := by
  obtain ⟨S1, e1, P1, F1⟩ := m_laysPairs B hc
  exact m_solvesR B rfl B.1 (by have := pk_c B.1; omega) e1 P1 F1
theorem m_solvesBut (B : mB S 1 0 β) (hc : bk_c β ≤ 19) {b : Nat} (hb : b < bk_h β) : ∃ S', fX5_solves (nI b) S = some S' ∧ MO S' (bk_clr β b (bk_n β)) ∧ gS S S' := by
  obtain ⟨S1, e1, P1, F1⟩ := m_laysBut B hc hb
  have ok' := bk_clr_ok B.1 b (bk_n β)
  have hc' := bk_c_clr (β := β) b (bk_n β)
  exact m_solvesR (β' := bk_clr β b (bk_n β)) B rfl ok' (by have := pk_c ok'; omega) e1 P1 F1
end MS2
